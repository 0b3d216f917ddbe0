/-! CONTRACTS. Printed by wip/whole/gen/mkall.py out of the Java text. -/
set_option maxHeartbeats 4000000 in
set_option maxRecDepth 100000 in
theorem c_X7_found {l : Launch} {w : WC} {finding_ : Int32} {z : Sg} {r0 : Int32} {z0 : Sg} (hf : f_X7_found finding_ z = some (r0, z0)) : CT false l iX7_found w [.ref 0, .int finding_] z (some (.int r0)) z0 := by
  refine ct_of 0 (lv := [some (.ref 0), some (.int finding_)]) (by decide +kernel) rfl (Nat.le_of_ble_eq_true rfl) rfl (fun M hl hw hE => ?_)
  subst hl
  subst hw
  unfold f_X7_found at hf
  refine g_aload_n hE dX7_found_0 rfl ?_
  refine g_iload_n hE dX7_found_1 rfl ?_
  refine ptX7_12 hE kX_0 wf_RX7_280 dX7_found_2 ?_
  refine g_bipush hE (-10) dX7_found_5 (by decide) ?_
  refine g_iload_n hE dX7_found_7 rfl ?_
  refine g_isub hE dX7_found_8 ?_
  obtain ⟨rfl, rfl⟩ := so2 hf
  exact g_iret hE rfl dX7_found_9
set_option maxHeartbeats 4000000 in
set_option maxRecDepth 100000 in
theorem c_X5_isLost {l : Launch} {w : WC} {t : Nat} {z : Sg} {r0 : Int32} (hkt : kd false t = KX5) (hf : f_X5_isLost t z = some r0) : CT false l iX5_isLost w [.ref t] z (some (.int r0)) z := by
  refine ct_of 0 (lv := [some (.ref t)]) (by decide +kernel) rfl (Nat.le_of_ble_eq_true rfl) rfl (fun M hl hw hE => ?_)
  subst hl
  subst hw
  unfold f_X5_isLost at hf
  obtain ⟨x1, hx2, hf⟩ := b1_of hf
  have hJ3 : G false iX5_isLost M (some (.int r0), z) 13 [some (.ref t)] [.int x1] z := by
    obtain ⟨h4, hf⟩ := ck_of hf
    obtain rfl := so1 hf
    exact g_zret hE rfl (bz_nar h4) dX5_isLost_13
  replace hf := hx2
  clear hx2
  refine g_aload_n hE dX5_isLost_0 rfl ?_
  refine gtX5_1 hE hkt wf_RX5_15 dX5_isLost_1 ?_
  refine g_iconst hE (-1) dX5_isLost_4 (by decide) ?_
  refine g_icmp_ne 12 hE dX5_isLost_5 (by decide) (fun h5 => ?_) (fun h5 => ?_)
  · replace hf := it_f hf h5
    refine g_iconst hE (0) dX5_isLost_12 (by decide) ?_
    obtain rfl := so1 hf
    exact hJ3
  · replace hf := it_t hf h5
    refine g_iconst hE (1) dX5_isLost_8 (by decide) ?_
    refine g_goto 13 hE dX5_isLost_9 (by decide) ?_
    obtain rfl := so1 hf
    exact hJ3
set_option maxHeartbeats 4000000 in
set_option maxRecDepth 100000 in
theorem c_X7_read {l : Launch} {w : WC} {s_ : Int32} {z : Sg} {r0 : Int32} {z0 : Sg} (hf : f_X7_read s_ z = some (r0, z0)) : CT false l iX7_read w [.ref 0, .int s_] z (some (.int r0)) z0 := by
  refine ct_of 3 (lv := [some (.ref 0), some (.int s_), none, none, none]) (by decide +kernel) rfl (Nat.le_of_ble_eq_true rfl) rfl (fun M hl hw hE => ?_)
  subst hl
  subst hw
  unfold f_X7_read at hf
  refine g_iload_n hE dX7_read_0 rfl ?_
  refine g_iconst hE (4) dX7_read_1 (by decide) ?_
  obtain ⟨r2, hc1, hf⟩ := b1_of hf
  refine g_callS2r hE ms_X7_outside wm_RX7_73 (by decide) (Nat.le_of_ble_eq_true rfl) dX7_read_2 (c_X7_outside hc1) ?_
  refine g_if_eq 11 hE dX7_read_5 (by decide) (fun h3 => ?_) (fun h3 => ?_)
  · replace hf := it_f hf (fun q => q h3)
    refine g_aload_n hE dX7_read_11 rfl ?_
    refine gtX7_9 hE kX_0 wf_RX7_68 dX7_read_12 ?_
    refine g_iload_n hE dX7_read_15 rfl ?_
    obtain ⟨h4, hf⟩ := ck_of hf
    obtain ⟨hk5, hf⟩ := ck_of hf
    refine g_aald hE kX_44 h4 dX7_read_16 ?_
    refine g_astore_n [some _, some _, some _, none, none] hE dX7_read_17 (by decide) rfl ?_
    refine g_aload_n hE dX7_read_18 rfl ?_
    obtain ⟨r7, hc6, hf⟩ := b1_of hf
    refine g_callV0r hE mv_X5_isLost hk5 rfl wm_RX7_136 (by decide) (Nat.le_of_ble_eq_true rfl) dX7_read_19 (c_X5_isLost hk5 hc6) ?_
    refine g_if_eq 31 hE dX7_read_22 (by decide) (fun h8 => ?_) (fun h8 => ?_)
    · replace hf := it_f hf (fun q => q h8)
      refine g_iconst hE (0) dX7_read_31 (by decide) ?_
      refine g_istore_n [some _, some _, some _, some _, none] hE dX7_read_32 (by decide) rfl ?_
      refine g_iconst hE (0) dX7_read_33 (by decide) ?_
      refine g_istore [some _, some _, some _, some _, some _] hE dX7_read_34 (by decide) rfl ?_
      obtain ⟨took_17, z18, hx15, hf⟩ := b2_of hf
      have hJ16 : G false iX7_read M (some (.int r0), z0) 82 [some (.ref 0), some (.int s_), some (.ref (45 + 2 * ix s_)), some (.int took_17), none] [] z18 := by
        refine g_iload_n hE dX7_read_82 rfl ?_
        obtain ⟨rfl, rfl⟩ := so2 hf
        exact g_iret hE rfl dX7_read_83
      clear hf
      have hl12 : ∀ (n14 : Nat) (took_9 : Int32) (i_10 : Int32) (z11 : Sg), f_X7_read_lp1 (45 + 2 * ix s_) n14 took_9 i_10 z11 = some (took_17, z18) → G false iX7_read M (some (.int r0), z0) 36 [some (.ref 0), some (.int s_), some (.ref (45 + 2 * ix s_)), some (.int took_9), some (.int i_10)] [] z11 := by
        intro n14
        induction n14 with
        | zero => intro took_9 i_10 z11 hf; cases hf
        | succ n14 ih13 =>
          intro took_9 i_10 z11 hf
          rw [f_X7_read_lp1] at hf
          refine g_iload hE dX7_read_36 rfl ?_
          refine g_iconst hE (1) dX7_read_38 (by decide) ?_
          refine g_iadd hE dX7_read_39 ?_
          refine g_aload_n hE dX7_read_40 rfl ?_
          refine gtX5_1 hE hk5 wf_RX7_144 dX7_read_41 ?_
          refine g_icmp_ge 82 hE dX7_read_44 (by decide) (fun h19 => ?_) (fun h19 => ?_)
          · replace hf := it_f hf (cv_ngt h19)
            obtain ⟨rfl, rfl⟩ := so2 hf
            exact g_wk [true, true, true, true, false] rfl hJ16
          · replace hf := it_t hf (cv_gt h19)
            refine g_aload_n hE dX7_read_47 rfl ?_
            refine g_aload_n hE dX7_read_48 rfl ?_
            refine gtX5_0 hE hk5 wf_RX7_145 dX7_read_49 ?_
            refine g_iload hE dX7_read_52 rfl ?_
            obtain ⟨h20, hf⟩ := ck_of hf
            refine g_iald hE (rlX5_0 hk5) h20 dX7_read_54 ?_
            refine g_aload_n hE dX7_read_55 rfl ?_
            refine gtX5_0 hE hk5 wf_RX7_145 dX7_read_56 ?_
            refine g_iload hE dX7_read_59 rfl ?_
            refine g_iconst hE (1) dX7_read_61 (by decide) ?_
            refine g_iadd hE dX7_read_62 ?_
            obtain ⟨h21, hf⟩ := ck_of hf
            refine g_iald hE (rlX5_0 hk5) h21 dX7_read_63 ?_
            obtain ⟨r24, z23, hc22, hf⟩ := b2_of hf
            refine g_callV2r hE mv_X7_claim kX_0 rfl wm_RX7_148 (by decide) (Nat.le_of_ble_eq_true rfl) dX7_read_64 (c_X7_claim hc22) ?_
            refine g_if_ge 73 hE dX7_read_67 (by decide) (fun h25 => ?_) (fun h25 => ?_)
            · replace hf := it_f hf (cv_ngt h25)
              refine g_iinc [some _, some _, some _, some _, some _] hE (took_9 + (1 : Int32)) dX7_read_73 rfl rfl (by decide) rfl ?_
              refine g_iinc [some _, some _, some _, some _, some _] hE (i_10 + (2 : Int32)) dX7_read_76 rfl rfl (by decide) rfl ?_
              refine g_goto 36 hE dX7_read_79 (by decide) ?_
              exact (ih13 _ _ _ hf)
            · replace hf := it_t hf (cv_gt h25)
              refine g_goto 82 hE dX7_read_70 (by decide) ?_
              obtain ⟨rfl, rfl⟩ := so2 hf
              exact g_wk [true, true, true, true, false] rfl hJ16
      exact hl12 _ _ _ _ hx15
    · replace hf := it_t hf h8
      refine g_aload_n hE dX7_read_25 rfl ?_
      refine g_iconst hE (1) dX7_read_26 (by decide) ?_
      obtain ⟨r28, z27, hc26, hf⟩ := b2_of hf
      refine g_callV1r hE mv_X7_found kX_0 rfl wm_RX7_140 (by decide) (Nat.le_of_ble_eq_true rfl) dX7_read_27 (c_X7_found hc26) ?_
      obtain ⟨rfl, rfl⟩ := so2 hf
      exact g_iret hE rfl dX7_read_30
  · replace hf := it_t hf h3
    refine g_bipush hE (-2) dX7_read_8 (by decide) ?_
    obtain ⟨rfl, rfl⟩ := so2 hf
    exact g_iret hE rfl dX7_read_10
set_option maxHeartbeats 4000000 in
set_option maxRecDepth 100000 in
theorem c_J7_fill_53178 {l : Launch} {w : WC} {a_ : Nat} {val_ : Int32} {n_ : Nat} {z : Sg} {z0 : Sg} (hk_a : kd false a_ = (1, n_, [])) (hf : f_J7_fill_53178 a_ val_ n_ z = some z0) : CT false l iJ7_fill_53178 w [.ref a_, .int val_] z none z0 := by
  refine ct_of 2 (lv := [some (.ref a_), some (.int val_), none, none]) (by decide +kernel) rfl (Nat.le_of_ble_eq_true rfl) rfl (fun M hl hw hE => ?_)
  subst hl
  subst hw
  unfold f_J7_fill_53178 at hf
  refine g_iconst hE (0) dJ7_fill_53178_0 (by decide) ?_
  refine g_istore_n [some _, some _, some _, none] hE dJ7_fill_53178_1 (by decide) rfl ?_
  refine g_aload_n hE dJ7_fill_53178_2 rfl ?_
  refine g_alenI (v := (Int32.ofNat n_)) hE hk_a rfl dJ7_fill_53178_3 ?_
  refine g_istore_n [some _, some _, some _, some _] hE dJ7_fill_53178_4 (by decide) rfl ?_
  obtain ⟨z8, hx6, hf⟩ := b1_of hf
  have hJ7 : G false iJ7_fill_53178 M (none, z0) 20 [some (.ref a_), some (.int val_), none, none] [] z8 := by
    obtain rfl := so1 hf
    exact g_ret hE rfl dJ7_fill_53178_20
  clear hf
  have hl3 : ∀ (n5 : Nat) (i_1 : Int32) (z2 : Sg), f_J7_fill_53178_lp1 a_ val_ (Int32.ofNat n_) n_ n5 i_1 z2 = some z8 → G false iJ7_fill_53178 M (none, z0) 5 [some (.ref a_), some (.int val_), some (.int i_1), some (.int (Int32.ofNat n_))] [] z2 := by
    intro n5
    induction n5 with
    | zero => intro i_1 z2 hf; cases hf
    | succ n5 ih4 =>
      intro i_1 z2 hf
      rw [f_J7_fill_53178_lp1] at hf
      refine g_iload_n hE dJ7_fill_53178_5 rfl ?_
      refine g_iload_n hE dJ7_fill_53178_6 rfl ?_
      refine g_icmp_ge 20 hE dJ7_fill_53178_7 (by decide) (fun h9 => ?_) (fun h9 => ?_)
      · replace hf := it_f hf (cv_ngt h9)
        obtain rfl := so1 hf
        exact g_wk [true, true, false, false] rfl hJ7
      · replace hf := it_t hf (cv_gt h9)
        refine g_aload_n hE dJ7_fill_53178_10 rfl ?_
        refine g_iload_n hE dJ7_fill_53178_11 rfl ?_
        refine g_iload_n hE dJ7_fill_53178_12 rfl ?_
        obtain ⟨h10, hf⟩ := ck_of hf
        refine g_iast hE hk_a h10 dJ7_fill_53178_13 ?_
        refine g_iinc [some _, some _, some _, some _] hE (i_1 + (1 : Int32)) dJ7_fill_53178_14 rfl rfl (by decide) rfl ?_
        refine g_goto 5 hE dJ7_fill_53178_17 (by decide) ?_
        exact (ih4 _ _ hf)
  exact hl3 _ _ _ hx6
set_option maxHeartbeats 4000000 in
set_option maxRecDepth 100000 in
theorem c_J6_bitCount_0f7a4 {l : Launch} {w : WC} {i_ : Int32} {z : Sg} {r0 : Int32} (hf : f_J6_bitCount_0f7a4 i_ = some r0) : CT false l iJ6_bitCount_0f7a4 w [.int i_] z (some (.int r0)) z := by
  refine ct_of 0 (lv := [some (.int i_)]) (by decide +kernel) rfl (Nat.le_of_ble_eq_true rfl) rfl (fun M hl hw hE => ?_)
  subst hl
  subst hw
  unfold f_J6_bitCount_0f7a4 at hf
  refine g_iload_n hE dJ6_bitCount_0f7a4_0 rfl ?_
  refine g_iload_n hE dJ6_bitCount_0f7a4_1 rfl ?_
  refine g_iconst hE (1) dJ6_bitCount_0f7a4_2 (by decide) ?_
  refine g_iushr hE dJ6_bitCount_0f7a4_3 ?_
  refine g_ldcw hE wk_RJ6_265 dJ6_bitCount_0f7a4_4 ?_
  refine g_iand hE dJ6_bitCount_0f7a4_7 ?_
  refine g_isub hE dJ6_bitCount_0f7a4_8 ?_
  refine g_istore_n [some _] hE dJ6_bitCount_0f7a4_9 (by decide) rfl ?_
  refine g_iload_n hE dJ6_bitCount_0f7a4_10 rfl ?_
  refine g_ldcw hE wk_RJ6_266 dJ6_bitCount_0f7a4_11 ?_
  refine g_iand hE dJ6_bitCount_0f7a4_14 ?_
  refine g_iload_n hE dJ6_bitCount_0f7a4_15 rfl ?_
  refine g_iconst hE (2) dJ6_bitCount_0f7a4_16 (by decide) ?_
  refine g_iushr hE dJ6_bitCount_0f7a4_17 ?_
  refine g_ldcw hE wk_RJ6_266 dJ6_bitCount_0f7a4_18 ?_
  refine g_iand hE dJ6_bitCount_0f7a4_21 ?_
  refine g_iadd hE dJ6_bitCount_0f7a4_22 ?_
  refine g_istore_n [some _] hE dJ6_bitCount_0f7a4_23 (by decide) rfl ?_
  refine g_iload_n hE dJ6_bitCount_0f7a4_24 rfl ?_
  refine g_iload_n hE dJ6_bitCount_0f7a4_25 rfl ?_
  refine g_iconst hE (4) dJ6_bitCount_0f7a4_26 (by decide) ?_
  refine g_iushr hE dJ6_bitCount_0f7a4_27 ?_
  refine g_iadd hE dJ6_bitCount_0f7a4_28 ?_
  refine g_ldcw hE wk_RJ6_267 dJ6_bitCount_0f7a4_29 ?_
  refine g_iand hE dJ6_bitCount_0f7a4_32 ?_
  refine g_istore_n [some _] hE dJ6_bitCount_0f7a4_33 (by decide) rfl ?_
  refine g_iload_n hE dJ6_bitCount_0f7a4_34 rfl ?_
  refine g_iload_n hE dJ6_bitCount_0f7a4_35 rfl ?_
  refine g_bipush hE (8) dJ6_bitCount_0f7a4_36 (by decide) ?_
  refine g_iushr hE dJ6_bitCount_0f7a4_38 ?_
  refine g_iadd hE dJ6_bitCount_0f7a4_39 ?_
  refine g_istore_n [some _] hE dJ6_bitCount_0f7a4_40 (by decide) rfl ?_
  refine g_iload_n hE dJ6_bitCount_0f7a4_41 rfl ?_
  refine g_iload_n hE dJ6_bitCount_0f7a4_42 rfl ?_
  refine g_bipush hE (16) dJ6_bitCount_0f7a4_43 (by decide) ?_
  refine g_iushr hE dJ6_bitCount_0f7a4_45 ?_
  refine g_iadd hE dJ6_bitCount_0f7a4_46 ?_
  refine g_istore_n [some _] hE dJ6_bitCount_0f7a4_47 (by decide) rfl ?_
  refine g_iload_n hE dJ6_bitCount_0f7a4_48 rfl ?_
  refine g_bipush hE (63) dJ6_bitCount_0f7a4_49 (by decide) ?_
  refine g_iand hE dJ6_bitCount_0f7a4_51 ?_
  obtain rfl := so1 hf
  exact g_iret hE rfl dJ6_bitCount_0f7a4_52
set_option maxHeartbeats 4000000 in
set_option maxRecDepth 100000 in
theorem c_X2_saysEnough {l : Launch} {w : WC} {claimant_ : Int32} {z : Sg} {r0 : Int32} (hf : f_X2_saysEnough claimant_ z = some r0) : CT false l iX2_saysEnough w [.ref 9, .int claimant_] z (some (.int r0)) z := by
  refine ct_of 0 (lv := [some (.ref 9), some (.int claimant_)]) (by decide +kernel) rfl (Nat.le_of_ble_eq_true rfl) rfl (fun M hl hw hE => ?_)
  subst hl
  subst hw
  unfold f_X2_saysEnough at hf
  obtain ⟨x1, hx2, hf⟩ := b1_of hf
  have hJ3 : G false iX2_saysEnough M (some (.int r0), z) 24 [some (.ref 9), some (.int claimant_)] [.int x1] z := by
    obtain ⟨h4, hf⟩ := ck_of hf
    obtain rfl := so1 hf
    exact g_zret hE rfl (bz_nar h4) dX2_saysEnough_24
  replace hf := hx2
  clear hx2
  refine g_aload_n hE dX2_saysEnough_0 rfl ?_
  refine gtX2_1 hE kX_9 wf_RX2_22 dX2_saysEnough_1 ?_
  refine gtX1_1 hE kX_5 wf_RX2_31 dX2_saysEnough_4 ?_
  show G false iX2_saysEnough M (some (.int r0), z) 7 [some (.ref 9), some (.int claimant_)] [.ref 6] z
  refine g_iload_n hE dX2_saysEnough_7 rfl ?_
  obtain ⟨h5, hf⟩ := ck_of hf
  refine g_iald hE kX_6 h5 dX2_saysEnough_8 ?_
  obtain ⟨r7, hc6, hf⟩ := b1_of hf
  refine g_callS1r hE ms_J6_bitCount_0f7a4 wm_RX2_45 (by decide) (Nat.le_of_ble_eq_true rfl) dX2_saysEnough_9 (c_J6_bitCount_0f7a4 hc6) ?_
  refine g_aload_n hE dX2_saysEnough_12 rfl ?_
  refine gtX2_2 hE kX_9 wf_RX2_9 dX2_saysEnough_13 ?_
  refine g_icmp_lt 23 hE dX2_saysEnough_16 (by decide) (fun h8 => ?_) (fun h8 => ?_)
  · replace hf := it_f hf (cv_nge h8)
    refine g_iconst hE (0) dX2_saysEnough_23 (by decide) ?_
    obtain rfl := so1 hf
    exact hJ3
  · replace hf := it_t hf (cv_ge h8)
    refine g_iconst hE (1) dX2_saysEnough_19 (by decide) ?_
    refine g_goto 24 hE dX2_saysEnough_20 (by decide) ?_
    obtain rfl := so1 hf
    exact hJ3
set_option maxHeartbeats 4000000 in
set_option maxRecDepth 100000 in
theorem c_X2_isFitting {l : Launch} {w : WC} {claimant_ : Int32} {virtue_ : Int32} {z : Sg} {r0 : Int32} (hf : f_X2_isFitting claimant_ virtue_ z = some r0) : CT false l iX2_isFitting w [.ref 9, .int claimant_, .int virtue_] z (some (.int r0)) z := by
  refine ct_of 1 (lv := [some (.ref 9), some (.int claimant_), some (.int virtue_), none]) (by decide +kernel) rfl (Nat.le_of_ble_eq_true rfl) rfl (fun M hl hw hE => ?_)
  subst hl
  subst hw
  unfold f_X2_isFitting at hf
  refine g_aload_n hE dX2_isFitting_0 rfl ?_
  refine gtX2_1 hE kX_9 wf_RX2_22 dX2_isFitting_1 ?_
  refine gtX1_2 hE kX_5 wf_RX2_25 dX2_isFitting_4 ?_
  show G false iX2_isFitting M (some (.int r0), z) 7 [some (.ref 9), some (.int claimant_), some (.int virtue_), none] [.ref 7] z
  refine g_iload_n hE dX2_isFitting_7 rfl ?_
  obtain ⟨h1, hf⟩ := ck_of hf
  refine g_iald hE kX_7 h1 dX2_isFitting_8 ?_
  refine g_aload_n hE dX2_isFitting_9 rfl ?_
  refine gtX2_0 hE kX_9 wf_RX2_18 dX2_isFitting_10 ?_
  refine gtX1_2 hE kX_1 wf_RX2_25 dX2_isFitting_13 ?_
  show G false iX2_isFitting M (some (.int r0), z) 16 [some (.ref 9), some (.int claimant_), some (.int virtue_), none] [.ref 3, .int (rI z 7 (ix claimant_))] z
  refine g_iload_n hE dX2_isFitting_16 rfl ?_
  obtain ⟨h2, hf⟩ := ck_of hf
  refine g_iald hE kX_3 h2 dX2_isFitting_17 ?_
  refine g_ixor hE dX2_isFitting_18 ?_
  refine g_istore_n [some _, some _, some _, some _] hE dX2_isFitting_19 (by decide) rfl ?_
  obtain ⟨x3, hx4, hf⟩ := b1_of hf
  have hJ5 : G false iX2_isFitting M (some (.int r0), z) 39 [some (.ref 9), some (.int claimant_), some (.int virtue_), some (.int ((rI z 7 (ix claimant_)) ^^^ (rI z 3 (ix virtue_))))] [.int x3] z := by
    obtain ⟨h6, hf⟩ := ck_of hf
    obtain rfl := so1 hf
    exact g_zret hE rfl (bz_nar h6) dX2_isFitting_39
  replace hf := hx4
  clear hx4
  refine g_iload_n hE dX2_isFitting_20 rfl ?_
  refine g_aload_n hE dX2_isFitting_21 rfl ?_
  refine gtX2_1 hE kX_9 wf_RX2_22 dX2_isFitting_22 ?_
  refine gtX1_1 hE kX_5 wf_RX2_31 dX2_isFitting_25 ?_
  show G false iX2_isFitting M (some (.int r0), z) 28 [some (.ref 9), some (.int claimant_), some (.int virtue_), some (.int ((rI z 7 (ix claimant_)) ^^^ (rI z 3 (ix virtue_))))] [.ref 6, .int ((rI z 7 (ix claimant_)) ^^^ (rI z 3 (ix virtue_)))] z
  refine g_iload_n hE dX2_isFitting_28 rfl ?_
  obtain ⟨h7, hf⟩ := ck_of hf
  refine g_iald hE kX_6 h7 dX2_isFitting_29 ?_
  refine g_iand hE dX2_isFitting_30 ?_
  refine g_if_ne 38 hE dX2_isFitting_31 (by decide) (fun h8 => ?_) (fun h8 => ?_)
  · replace hf := it_f hf h8
    refine g_iconst hE (0) dX2_isFitting_38 (by decide) ?_
    obtain rfl := so1 hf
    exact hJ5
  · replace hf := it_t hf h8
    refine g_iconst hE (1) dX2_isFitting_34 (by decide) ?_
    refine g_goto 39 hE dX2_isFitting_35 (by decide) ?_
    obtain rfl := so1 hf
    exact hJ5
set_option maxHeartbeats 4000000 in
set_option maxRecDepth 100000 in
theorem c_X2_virtuesFittedBy {l : Launch} {w : WC} {claimant_ : Int32} {z : Sg} {r0 : Int32} (hf : f_X2_virtuesFittedBy claimant_ z = some r0) : CT false l iX2_virtuesFittedBy w [.ref 9, .int claimant_] z (some (.int r0)) z := by
  refine ct_of 2 (lv := [some (.ref 9), some (.int claimant_), none, none]) (by decide +kernel) rfl (Nat.le_of_ble_eq_true rfl) rfl (fun M hl hw hE => ?_)
  subst hl
  subst hw
  unfold f_X2_virtuesFittedBy at hf
  refine g_iconst hE (0) dX2_virtuesFittedBy_0 (by decide) ?_
  refine g_istore_n [some _, some _, some _, none] hE dX2_virtuesFittedBy_1 (by decide) rfl ?_
  refine g_iconst hE (0) dX2_virtuesFittedBy_2 (by decide) ?_
  refine g_istore_n [some _, some _, some _, some _] hE dX2_virtuesFittedBy_3 (by decide) rfl ?_
  obtain ⟨bits_8, hx6, hf⟩ := b1_of hf
  have hJ7 : G false iX2_virtuesFittedBy M (some (.int r0), z) 36 [some (.ref 9), some (.int claimant_), some (.int bits_8), none] [] z := by
    refine g_iload_n hE dX2_virtuesFittedBy_36 rfl ?_
    obtain rfl := so1 hf
    exact g_iret hE rfl dX2_virtuesFittedBy_37
  clear hf
  have hl3 : ∀ (n5 : Nat) (bits_1 : Int32) (v_2 : Int32), f_X2_virtuesFittedBy_lp1 claimant_ z n5 bits_1 v_2 = some bits_8 → G false iX2_virtuesFittedBy M (some (.int r0), z) 4 [some (.ref 9), some (.int claimant_), some (.int bits_1), some (.int v_2)] [] z := by
    intro n5
    induction n5 with
    | zero => intro bits_1 v_2 hf; cases hf
    | succ n5 ih4 =>
      intro bits_1 v_2 hf
      rw [f_X2_virtuesFittedBy_lp1] at hf
      refine g_iload_n hE dX2_virtuesFittedBy_4 rfl ?_
      refine g_aload_n hE dX2_virtuesFittedBy_5 rfl ?_
      refine gtX2_0 hE kX_9 wf_RX2_18 dX2_virtuesFittedBy_6 ?_
      refine gtX1_5 hE kX_1 wf_RX2_34 dX2_virtuesFittedBy_9 ?_
      refine g_icmp_ge 36 hE dX2_virtuesFittedBy_12 (by decide) (fun h9 => ?_) (fun h9 => ?_)
      · replace hf := it_f hf (cv_ngt h9)
        obtain rfl := so1 hf
        exact g_wk [true, true, true, false] rfl hJ7
      · replace hf := it_t hf (cv_gt h9)
        obtain ⟨bits_12, hx10, hf⟩ := b1_of hf
        have hJ11 : G false iX2_virtuesFittedBy M (some (.int r0), z) 30 [some (.ref 9), some (.int claimant_), some (.int bits_12), some (.int v_2)] [] z := by
          refine g_iinc [some _, some _, some _, some _] hE (v_2 + (1 : Int32)) dX2_virtuesFittedBy_30 rfl rfl (by decide) rfl ?_
          refine g_goto 4 hE dX2_virtuesFittedBy_33 (by decide) ?_
          exact (ih4 _ _ hf)
        replace hf := hx10
        clear hx10
        refine g_aload_n hE dX2_virtuesFittedBy_15 rfl ?_
        refine g_iload_n hE dX2_virtuesFittedBy_16 rfl ?_
        refine g_iload_n hE dX2_virtuesFittedBy_17 rfl ?_
        obtain ⟨r14, hc13, hf⟩ := b1_of hf
        refine g_callV2r hE mv_X2_isFitting kX_9 rfl wm_RX2_37 (by decide) (Nat.le_of_ble_eq_true rfl) dX2_virtuesFittedBy_18 (c_X2_isFitting hc13) ?_
        refine g_if_eq 30 hE dX2_virtuesFittedBy_21 (by decide) (fun h15 => ?_) (fun h15 => ?_)
        · replace hf := it_f hf (fun q => q h15)
          obtain rfl := so1 hf
          exact hJ11
        · replace hf := it_t hf h15
          refine g_iload_n hE dX2_virtuesFittedBy_24 rfl ?_
          refine g_iconst hE (1) dX2_virtuesFittedBy_25 (by decide) ?_
          refine g_iload_n hE dX2_virtuesFittedBy_26 rfl ?_
          refine g_ishl hE dX2_virtuesFittedBy_27 ?_
          refine g_ior hE dX2_virtuesFittedBy_28 ?_
          refine g_istore_n [some _, some _, some _, some _] hE dX2_virtuesFittedBy_29 (by decide) rfl ?_
          obtain rfl := so1 hf
          exact hJ11
  exact hl3 _ _ _ hx6
set_option maxHeartbeats 4000000 in
set_option maxRecDepth 100000 in
theorem c_X4_come {l : Launch} {w : WC} {t : Nat} {week_ : Int32} {who_ : Int32} {index_ : Int32} {z : Sg} {z0 : Sg} (hkt : kd false t = KX4) (hf : f_X4_come t week_ who_ index_ z = some z0) : CT false l iX4_come w [.ref t, .int week_, .int who_, .int index_] z none z0 := by
  refine ct_of 3 (lv := [some (.ref t), some (.int week_), some (.int who_), some (.int index_), none, none, none]) (by decide +kernel) rfl (Nat.le_of_ble_eq_true rfl) rfl (fun M hl hw hE => ?_)
  subst hl
  subst hw
  unfold f_X4_come at hf
  obtain ⟨q1, hx2, hf⟩ := b1_of hf
  have hT3 : q1 = true → G false iX4_come M (none, z0) 26 [some (.ref t), some (.int week_), some (.int who_), some (.int index_), none, none, none] [] z := by
    intro hq5
    replace hf := it_t hf hq5
    obtain rfl := so1 hf
    exact g_ret hE rfl dX4_come_26
  have hF4 : q1 = false → G false iX4_come M (none, z0) 27 [some (.ref t), some (.int week_), some (.int who_), some (.int index_), none, none, none] [] z := by
    intro hq5
    replace hf := it_f hf (by rw [hq5]; decide)
    refine g_aload_n hE dX4_come_27 rfl ?_
    refine gtX4_0 hE hkt wf_RX4_42 dX4_come_28 ?_
    refine gnX2_1 hE kX_9 wn_RX4_56 dX4_come_31 ?_
    refine gtX1_3 hE kX_5 wf_RX4_97 dX4_come_34 ?_
    show G false iX4_come M (none, z0) 37 [some (.ref t), some (.int week_), some (.int who_), some (.int index_), none, none, none] [.ref 8] z
    refine g_iload_n hE dX4_come_37 rfl ?_
    obtain ⟨h6, hf⟩ := ck_of hf
    refine g_iald hE kX_8 h6 dX4_come_38 ?_
    refine g_istore [some _, some _, some _, some _, some _, none, none] hE dX4_come_39 (by decide) rfl ?_
    refine g_iload_n hE dX4_come_41 rfl ?_
    refine g_sipush hE (5120) dX4_come_42 (by decide) ?_
    refine g_imul hE dX4_come_45 ?_
    refine g_iload hE dX4_come_46 rfl ?_
    refine g_sipush hE (512) dX4_come_48 (by decide) ?_
    refine g_imul hE dX4_come_51 ?_
    refine g_iadd hE dX4_come_52 ?_
    refine g_iload_n hE dX4_come_53 rfl ?_
    refine g_bipush hE (8) dX4_come_54 (by decide) ?_
    refine g_imul hE dX4_come_56 ?_
    refine g_iadd hE dX4_come_57 ?_
    refine g_iload_n hE dX4_come_58 rfl ?_
    refine g_iadd hE dX4_come_59 ?_
    refine g_istore [some _, some _, some _, some _, some _, some _, none] hE dX4_come_60 (by decide) rfl ?_
    refine g_aload_n hE dX4_come_62 rfl ?_
    refine gtX4_3 hE hkt wf_RX4_52 dX4_come_63 ?_
    refine g_istore [some _, some _, some _, some _, some _, some _, some _] hE dX4_come_66 (by decide) rfl ?_
    obtain ⟨at_14, z15, hx12, hf⟩ := b2_of hf
    have hJ13 : G false iX4_come M (none, z0) 109 [some (.ref t), some (.int week_), some (.int who_), some (.int index_), some (.int (rI z 8 (ix who_))), some (.int ((((week_ * (5120 : Int32)) + ((rI z 8 (ix who_)) * (512 : Int32))) + (index_ * (8 : Int32))) + who_)), some (.int at_14)] [] z15 := by
      refine g_aload_n hE dX4_come_109 rfl ?_
      refine gtX4_2 hE hkt wf_RX4_15 dX4_come_110 ?_
      refine g_iload hE dX4_come_113 rfl ?_
      refine g_iload hE dX4_come_115 rfl ?_
      obtain ⟨h16, hf⟩ := ck_of hf
      refine g_iast hE (rlX4_2 hkt) h16 dX4_come_117 ?_
      refine g_aload_n hE dX4_come_118 rfl ?_
      refine g_dup hE dX4_come_119 rfl ?_
      refine gtX4_3 hE hkt wf_RX4_52 dX4_come_120 ?_
      refine g_iconst hE (1) dX4_come_123 (by decide) ?_
      refine g_iadd hE dX4_come_124 ?_
      refine ptX4_3 hE hkt wf_RX4_52 dX4_come_125 ?_
      obtain rfl := so1 hf
      exact g_ret hE rfl dX4_come_128
    clear hf
    have hl9 : ∀ (n11 : Nat) (at_7 : Int32) (z8 : Sg), f_X4_come_lp1 t ((((week_ * (5120 : Int32)) + ((rI z 8 (ix who_)) * (512 : Int32))) + (index_ * (8 : Int32))) + who_) n11 at_7 z8 = some (at_14, z15) → G false iX4_come M (none, z0) 68 [some (.ref t), some (.int week_), some (.int who_), some (.int index_), some (.int (rI z 8 (ix who_))), some (.int ((((week_ * (5120 : Int32)) + ((rI z 8 (ix who_)) * (512 : Int32))) + (index_ * (8 : Int32))) + who_)), some (.int at_7)] [] z8 := by
      intro n11
      induction n11 with
      | zero => intro at_7 z8 hf; cases hf
      | succ n11 ih10 =>
        intro at_7 z8 hf
        rw [f_X4_come_lp1] at hf
        obtain ⟨q17, hx18, hf⟩ := b1_of hf
        have hT19 : q17 = true → G false iX4_come M (none, z0) 87 [some (.ref t), some (.int week_), some (.int who_), some (.int index_), some (.int (rI z 8 (ix who_))), some (.int ((((week_ * (5120 : Int32)) + ((rI z 8 (ix who_)) * (512 : Int32))) + (index_ * (8 : Int32))) + who_)), some (.int at_7)] [] z8 := by
          intro hq21
          replace hf := it_t hf hq21
          refine g_aload_n hE dX4_come_87 rfl ?_
          refine gtX4_2 hE hkt wf_RX4_15 dX4_come_88 ?_
          refine g_iload hE dX4_come_91 rfl ?_
          refine g_aload_n hE dX4_come_93 rfl ?_
          refine gtX4_2 hE hkt wf_RX4_15 dX4_come_94 ?_
          refine g_iload hE dX4_come_97 rfl ?_
          refine g_iconst hE (1) dX4_come_99 (by decide) ?_
          refine g_isub hE dX4_come_100 ?_
          obtain ⟨h22, hf⟩ := ck_of hf
          refine g_iald hE (rlX4_2 hkt) h22 dX4_come_101 ?_
          obtain ⟨h23, hf⟩ := ck_of hf
          refine g_iast hE (rlX4_2 hkt) h23 dX4_come_102 ?_
          refine g_iinc [some _, some _, some _, some _, some _, some _, some _] hE (at_7 + (-1 : Int32)) dX4_come_103 rfl rfl (by decide) rfl ?_
          refine g_goto 68 hE dX4_come_106 (by decide) ?_
          exact (ih10 _ _ hf)
        have hF20 : q17 = false → G false iX4_come M (none, z0) 109 [some (.ref t), some (.int week_), some (.int who_), some (.int index_), some (.int (rI z 8 (ix who_))), some (.int ((((week_ * (5120 : Int32)) + ((rI z 8 (ix who_)) * (512 : Int32))) + (index_ * (8 : Int32))) + who_)), some (.int at_7)] [] z8 := by
          intro hq21
          replace hf := it_f hf (by rw [hq21]; decide)
          obtain ⟨rfl, rfl⟩ := so2 hf
          exact hJ13
        replace hf := hx18
        clear hx18
        refine g_iload hE dX4_come_68 rfl ?_
        refine g_if_le 109 hE dX4_come_70 (by decide) (fun h24 => ?_) (fun h24 => ?_)
        · replace hf := it_f hf (cv_ngt h24)
          obtain rfl := so1 hf
          exact hF20 rfl
        · replace hf := it_t hf (cv_gt h24)
          refine g_aload_n hE dX4_come_73 rfl ?_
          refine gtX4_2 hE hkt wf_RX4_15 dX4_come_74 ?_
          refine g_iload hE dX4_come_77 rfl ?_
          refine g_iconst hE (1) dX4_come_79 (by decide) ?_
          refine g_isub hE dX4_come_80 ?_
          obtain ⟨h25, hf⟩ := ck_of hf
          refine g_iald hE (rlX4_2 hkt) h25 dX4_come_81 ?_
          refine g_iload hE dX4_come_82 rfl ?_
          refine g_icmp_le 109 hE dX4_come_84 (by decide) (fun h26 => ?_) (fun h26 => ?_)
          · replace hf := it_f hf (cv_ngt h26)
            obtain rfl := so1 hf
            exact hF20 rfl
          · replace hf := it_t hf (cv_gt h26)
            obtain rfl := so1 hf
            exact hT19 rfl
    exact hl9 _ _ _ hx12
  replace hf := hx2
  clear hx2
  refine g_iload_n hE dX4_come_0 rfl ?_
  refine g_aload_n hE dX4_come_1 rfl ?_
  refine gtX4_0 hE hkt wf_RX4_42 dX4_come_2 ?_
  refine gnX2_1 hE kX_9 wn_RX4_56 dX4_come_5 ?_
  refine gtX1_5 hE kX_5 wf_RX4_62 dX4_come_8 ?_
  refine g_icmp_ge 26 hE dX4_come_11 (by decide) (fun h27 => ?_) (fun h27 => ?_)
  · replace hf := it_t hf h27
    obtain rfl := so1 hf
    exact hT3 rfl
  · replace hf := it_f hf h27
    refine g_aload_n hE dX4_come_14 rfl ?_
    refine gtX4_3 hE hkt wf_RX4_52 dX4_come_15 ?_
    refine g_aload_n hE dX4_come_18 rfl ?_
    refine gtX4_2 hE hkt wf_RX4_15 dX4_come_19 ?_
    refine g_alenI (v := (52 : Int32)) hE (rlX4_2 hkt) (by decide) dX4_come_22 ?_
    refine g_icmp_lt 27 hE dX4_come_23 (by decide) (fun h28 => ?_) (fun h28 => ?_)
    · replace hf := it_f hf (cv_nge h28)
      obtain rfl := so1 hf
      exact hF4 rfl
    · replace hf := it_t hf (cv_ge h28)
      obtain rfl := so1 hf
      exact hT3 rfl
set_option maxHeartbeats 4000000 in
set_option maxRecDepth 100000 in
theorem c_X4_hand {l : Launch} {w : WC} {t : Nat} {week_ : Int32} {virtue_ : Int32} {z : Sg} {z0 : Sg} (hkt : kd false t = KX4) (hf : f_X4_hand t week_ virtue_ z = some z0) : CT false l iX4_hand w [.ref t, .int week_, .int virtue_] z none z0 := by
  refine ct_of 0 (lv := [some (.ref t), some (.int week_), some (.int virtue_)]) (by decide +kernel) rfl (Nat.le_of_ble_eq_true rfl) rfl (fun M hl hw hE => ?_)
  subst hl
  subst hw
  unfold f_X4_hand at hf
  obtain ⟨z3, hx1, hf⟩ := b1_of hf
  have hJ2 : G false iX4_hand M (none, z0) 26 [some (.ref t), some (.int week_), some (.int virtue_)] [] z3 := by
    obtain rfl := so1 hf
    exact g_ret hE rfl dX4_hand_26
  replace hf := hx1
  clear hx1
  refine g_iload_n hE dX4_hand_0 rfl ?_
  refine g_aload_n hE dX4_hand_1 rfl ?_
  refine gtX4_0 hE hkt wf_RX4_42 dX4_hand_2 ?_
  refine gnX2_0 hE kX_9 wn_RX4_94 dX4_hand_5 ?_
  refine gtX1_5 hE kX_1 wf_RX4_62 dX4_hand_8 ?_
  refine g_icmp_ge 26 hE dX4_hand_11 (by decide) (fun h4 => ?_) (fun h4 => ?_)
  · replace hf := it_f hf (cv_ngt h4)
    obtain rfl := so1 hf
    exact hJ2
  · replace hf := it_t hf (cv_gt h4)
    refine g_aload_n hE dX4_hand_14 rfl ?_
    refine gtX4_1 hE hkt wf_RX4_11 dX4_hand_15 ?_
    refine g_iload_n hE dX4_hand_18 rfl ?_
    refine g_dup2 hE dX4_hand_19 rfl rfl ?_
    obtain ⟨h5, hf⟩ := ck_of hf
    refine g_iald hE (rlX4_1 hkt) h5 dX4_hand_20 ?_
    refine g_iconst hE (1) dX4_hand_21 (by decide) ?_
    refine g_iload_n hE dX4_hand_22 rfl ?_
    refine g_ishl hE dX4_hand_23 ?_
    refine g_ior hE dX4_hand_24 ?_
    obtain ⟨h6, hf⟩ := ck_of hf
    refine g_iast hE (rlX4_1 hkt) h6 dX4_hand_25 ?_
    obtain rfl := so1 hf
    exact hJ2
set_option maxHeartbeats 4000000 in
set_option maxRecDepth 100000 in
theorem c_X4_load {l : Launch} {w : WC} {t : Nat} {handings_ : Nat} {claims_ : Nat} {z : Sg} {z0 : Sg} (hkt : kd false t = KX4) (hk_handings : kd false handings_ = KX0) (hk_claims : kd false claims_ = KX0) (hf : f_X4_load t handings_ claims_ z = some z0) : CT false l iX4_load w [.ref t, .ref handings_, .ref claims_] z none z0 := by
  refine ct_of 1 (lv := [some (.ref t), some (.ref handings_), some (.ref claims_), none]) (by decide +kernel) rfl (Nat.le_of_ble_eq_true rfl) rfl (fun M hl hw hE => ?_)
  subst hl
  subst hw
  unfold f_X4_load at hf
  refine g_aload_n hE dX4_load_0 rfl ?_
  refine gtX4_1 hE hkt wf_RX4_11 dX4_load_1 ?_
  refine g_iconst hE (0) dX4_load_4 (by decide) ?_
  obtain ⟨z2, hc1, hf⟩ := b1_of hf
  refine g_callS2v hE ms_J7_fill_53178 wm_RX4_46 (by decide) (Nat.le_of_ble_eq_true rfl) dX4_load_5 (c_J7_fill_53178 (rlX4_1 hkt) hc1) ?_
  refine g_aload_n hE dX4_load_8 rfl ?_
  refine g_iconst hE (0) dX4_load_9 (by decide) ?_
  refine ptX4_3 hE hkt wf_RX4_52 dX4_load_10 ?_
  refine g_iconst hE (0) dX4_load_13 (by decide) ?_
  refine g_istore_n [some _, some _, some _, some _] hE dX4_load_14 (by decide) rfl ?_
  obtain ⟨z10, hx8, hf⟩ := b1_of hf
  have hJ9 : G false iX4_load M (none, z0) 76 [some (.ref t), some (.ref handings_), some (.ref claims_), none] [] z10 := by
    refine g_iconst hE (0) dX4_load_76 (by decide) ?_
    refine g_istore_n [some _, some _, some _, some _] hE dX4_load_77 (by decide) rfl ?_
    obtain ⟨z18, hx16, hf⟩ := b1_of hf
    have hJ17 : G false iX4_load M (none, z0) 108 [some (.ref t), some (.ref handings_), some (.ref claims_), none] [] z18 := by
      refine g_iconst hE (0) dX4_load_108 (by decide) ?_
      refine g_istore_n [some _, some _, some _, some _] hE dX4_load_109 (by decide) rfl ?_
      obtain ⟨z26, hx24, hf⟩ := b1_of hf
      have hJ25 : G false iX4_load M (none, z0) 141 [some (.ref t), some (.ref handings_), some (.ref claims_), none] [] z26 := by
        obtain rfl := so1 hf
        exact g_ret hE rfl dX4_load_141
      clear hf
      have hl21 : ∀ (n23 : Nat) (i_19 : Int32) (z20 : Sg), f_X4_load_lp3 t claims_ n23 i_19 z20 = some z26 → G false iX4_load M (none, z0) 110 [some (.ref t), some (.ref handings_), some (.ref claims_), some (.int i_19)] [] z20 := by
        intro n23
        induction n23 with
        | zero => intro i_19 z20 hf; cases hf
        | succ n23 ih22 =>
          intro i_19 z20 hf
          rw [f_X4_load_lp3] at hf
          refine g_iload_n hE dX4_load_110 rfl ?_
          refine g_aload_n hE dX4_load_111 rfl ?_
          refine gtX0_2 hE hk_claims wf_RX4_75 dX4_load_112 ?_
          refine g_icmp_ge 141 hE dX4_load_115 (by decide) (fun h27 => ?_) (fun h27 => ?_)
          · replace hf := it_f hf (cv_ngt h27)
            obtain rfl := so1 hf
            exact g_wk [true, true, true, false] rfl hJ25
          · replace hf := it_t hf (cv_gt h27)
            refine g_aload_n hE dX4_load_118 rfl ?_
            refine g_aload_n hE dX4_load_119 rfl ?_
            refine gtX0_0 hE hk_claims wf_RX4_80 dX4_load_120 ?_
            refine g_iload_n hE dX4_load_123 rfl ?_
            obtain ⟨h28, hf⟩ := ck_of hf
            refine g_iald hE (rlX0_0 hk_claims) h28 dX4_load_124 ?_
            refine g_aload_n hE dX4_load_125 rfl ?_
            refine gtX0_1 hE hk_claims wf_RX4_83 dX4_load_126 ?_
            refine g_iload_n hE dX4_load_129 rfl ?_
            obtain ⟨h29, hf⟩ := ck_of hf
            refine g_iald hE (rlX0_1 hk_claims) h29 dX4_load_130 ?_
            refine g_iload_n hE dX4_load_131 rfl ?_
            obtain ⟨z31, hc30, hf⟩ := b1_of hf
            refine g_callV3v hE mv_X4_come hkt rfl wm_RX4_90 (by decide) (Nat.le_of_ble_eq_true rfl) dX4_load_132 (c_X4_come hkt hc30) ?_
            refine g_iinc [some _, some _, some _, some _] hE (i_19 + (1 : Int32)) dX4_load_135 rfl rfl (by decide) rfl ?_
            refine g_goto 110 hE dX4_load_138 (by decide) ?_
            exact (ih22 _ _ hf)
      exact hl21 _ _ _ hx24
    clear hf
    have hl13 : ∀ (n15 : Nat) (i_11 : Int32) (z12 : Sg), f_X4_load_lp2 t handings_ n15 i_11 z12 = some z18 → G false iX4_load M (none, z0) 78 [some (.ref t), some (.ref handings_), some (.ref claims_), some (.int i_11)] [] z12 := by
      intro n15
      induction n15 with
      | zero => intro i_11 z12 hf; cases hf
      | succ n15 ih14 =>
        intro i_11 z12 hf
        rw [f_X4_load_lp2] at hf
        refine g_iload_n hE dX4_load_78 rfl ?_
        refine g_aload_n hE dX4_load_79 rfl ?_
        refine gtX0_2 hE hk_handings wf_RX4_75 dX4_load_80 ?_
        refine g_icmp_ge 108 hE dX4_load_83 (by decide) (fun h32 => ?_) (fun h32 => ?_)
        · replace hf := it_f hf (cv_ngt h32)
          obtain rfl := so1 hf
          exact g_wk [true, true, true, false] rfl hJ17
        · replace hf := it_t hf (cv_gt h32)
          refine g_aload_n hE dX4_load_86 rfl ?_
          refine g_aload_n hE dX4_load_87 rfl ?_
          refine gtX0_0 hE hk_handings wf_RX4_80 dX4_load_88 ?_
          refine g_iload_n hE dX4_load_91 rfl ?_
          obtain ⟨h33, hf⟩ := ck_of hf
          refine g_iald hE (rlX0_0 hk_handings) h33 dX4_load_92 ?_
          refine g_aload_n hE dX4_load_93 rfl ?_
          refine gtX0_1 hE hk_handings wf_RX4_83 dX4_load_94 ?_
          refine g_iload_n hE dX4_load_97 rfl ?_
          obtain ⟨h34, hf⟩ := ck_of hf
          refine g_iald hE (rlX0_1 hk_handings) h34 dX4_load_98 ?_
          obtain ⟨z36, hc35, hf⟩ := b1_of hf
          refine g_callV2v hE mv_X4_hand hkt rfl wm_RX4_86 (by decide) (Nat.le_of_ble_eq_true rfl) dX4_load_99 (c_X4_hand hkt hc35) ?_
          refine g_iinc [some _, some _, some _, some _] hE (i_11 + (1 : Int32)) dX4_load_102 rfl rfl (by decide) rfl ?_
          refine g_goto 78 hE dX4_load_105 (by decide) ?_
          exact (ih14 _ _ hf)
    exact hl13 _ _ _ hx16
  clear hf
  have hl5 : ∀ (n7 : Nat) (c_3 : Int32) (z4 : Sg), f_X4_load_lp1 t n7 c_3 z4 = some z10 → G false iX4_load M (none, z0) 15 [some (.ref t), some (.ref handings_), some (.ref claims_), some (.int c_3)] [] z4 := by
    intro n7
    induction n7 with
    | zero => intro c_3 z4 hf; cases hf
    | succ n7 ih6 =>
      intro c_3 z4 hf
      rw [f_X4_load_lp1] at hf
      refine g_iload_n hE dX4_load_15 rfl ?_
      refine g_aload_n hE dX4_load_16 rfl ?_
      refine gtX4_0 hE hkt wf_RX4_42 dX4_load_17 ?_
      refine gnX2_1 hE kX_9 wn_RX4_56 dX4_load_20 ?_
      refine gtX1_5 hE kX_5 wf_RX4_62 dX4_load_23 ?_
      refine g_icmp_ge 76 hE dX4_load_26 (by decide) (fun h37 => ?_) (fun h37 => ?_)
      · replace hf := it_f hf (cv_ngt h37)
        obtain rfl := so1 hf
        exact g_wk [true, true, true, false] rfl hJ9
      · replace hf := it_t hf (cv_gt h37)
        refine g_aload_n hE dX4_load_29 rfl ?_
        refine gtX4_4 hE hkt wf_RX4_18 dX4_load_30 ?_
        refine g_iload_n hE dX4_load_33 rfl ?_
        refine g_aload_n hE dX4_load_34 rfl ?_
        refine gtX4_0 hE hkt wf_RX4_42 dX4_load_35 ?_
        refine g_iload_n hE dX4_load_38 rfl ?_
        obtain ⟨r39, hc38, hf⟩ := b1_of hf
        refine g_callV1r hE mv_X2_virtuesFittedBy kX_9 rfl wm_RX4_67 (by decide) (Nat.le_of_ble_eq_true rfl) dX4_load_39 (c_X2_virtuesFittedBy hc38) ?_
        obtain ⟨h40, hf⟩ := ck_of hf
        refine g_iast hE (rlX4_4 hkt) h40 dX4_load_42 ?_
        refine g_aload_n hE dX4_load_43 rfl ?_
        refine gtX4_5 hE hkt wf_RX4_21 dX4_load_44 ?_
        refine g_iload_n hE dX4_load_47 rfl ?_
        obtain ⟨x41, hx42, hf⟩ := b1_of hf
        have hJ43 : G false iX4_load M (none, z0) 69 [some (.ref t), some (.ref handings_), some (.ref claims_), some (.int c_3)] [.int x41, .int c_3, .ref (t + 4)] (wI z4 (t + 3) (ix c_3) r39) := by
          obtain ⟨h44, hf⟩ := ck_of hf
          refine g_iast hE (rlX4_5 hkt) h44 dX4_load_69 ?_
          refine g_iinc [some _, some _, some _, some _] hE (c_3 + (1 : Int32)) dX4_load_70 rfl rfl (by decide) rfl ?_
          refine g_goto 15 hE dX4_load_73 (by decide) ?_
          exact (ih6 _ _ hf)
        replace hf := hx42
        clear hx42
        refine g_aload_n hE dX4_load_48 rfl ?_
        refine gtX4_0 hE hkt wf_RX4_42 dX4_load_49 ?_
        refine g_iload_n hE dX4_load_52 rfl ?_
        obtain ⟨r46, hc45, hf⟩ := b1_of hf
        refine g_callV1r hE mv_X2_saysEnough kX_9 rfl wm_RX4_71 (by decide) (Nat.le_of_ble_eq_true rfl) dX4_load_53 (c_X2_saysEnough hc45) ?_
        refine g_if_eq 68 hE dX4_load_56 (by decide) (fun h47 => ?_) (fun h47 => ?_)
        · replace hf := it_f hf (fun q => q h47)
          refine g_iconst hE (0) dX4_load_68 (by decide) ?_
          obtain rfl := so1 hf
          exact hJ43
        · replace hf := it_t hf h47
          refine g_aload_n hE dX4_load_59 rfl ?_
          refine gtX4_4 hE hkt wf_RX4_18 dX4_load_60 ?_
          refine g_iload_n hE dX4_load_63 rfl ?_
          obtain ⟨h48, hf⟩ := ck_of hf
          refine g_iald hE (rlX4_4 hkt) h48 dX4_load_64 ?_
          refine g_goto 69 hE dX4_load_65 (by decide) ?_
          obtain rfl := so1 hf
          exact hJ43
  exact hl5 _ _ _ hx8
set_option maxHeartbeats 4000000 in
set_option maxRecDepth 100000 in
theorem c_X4_begin {l : Launch} {w : WC} {t : Nat} {z : Sg} {z0 : Sg} (hkt : kd false t = KX4) (hf : f_X4_begin t z = some z0) : CT false l iX4_begin w [.ref t] z none z0 := by
  refine ct_of 0 (lv := [some (.ref t)]) (by decide +kernel) rfl (Nat.le_of_ble_eq_true rfl) rfl (fun M hl hw hE => ?_)
  subst hl
  subst hw
  unfold f_X4_begin at hf
  refine g_aload_n hE dX4_begin_0 rfl ?_
  refine gtX4_10 hE hkt wf_RX4_36 dX4_begin_1 ?_
  refine g_iconst hE (-1) dX4_begin_4 (by decide) ?_
  obtain ⟨z2, hc1, hf⟩ := b1_of hf
  refine g_callS2v hE ms_J7_fill_53178 wm_RX4_46 (by decide) (Nat.le_of_ble_eq_true rfl) dX4_begin_5 (c_J7_fill_53178 (rlX4_10 hkt) hc1) ?_
  refine g_aload_n hE dX4_begin_8 rfl ?_
  refine gtX4_11 hE hkt wf_RX4_39 dX4_begin_9 ?_
  refine g_iconst hE (-1) dX4_begin_12 (by decide) ?_
  obtain ⟨z4, hc3, hf⟩ := b1_of hf
  refine g_callS2v hE ms_J7_fill_53178 wm_RX4_46 (by decide) (Nat.le_of_ble_eq_true rfl) dX4_begin_13 (c_J7_fill_53178 (rlX4_11 hkt) hc3) ?_
  refine g_aload_n hE dX4_begin_16 rfl ?_
  refine g_iconst hE (0) dX4_begin_17 (by decide) ?_
  refine ptX4_12 hE hkt wf_RX4_113 dX4_begin_18 ?_
  refine g_aload_n hE dX4_begin_21 rfl ?_
  refine g_iconst hE (0) dX4_begin_22 (by decide) ?_
  refine ptX4_13 hE hkt wf_RX4_116 dX4_begin_23 ?_
  refine g_aload_n hE dX4_begin_26 rfl ?_
  refine g_iconst hE (0) dX4_begin_27 (by decide) ?_
  refine ptX4_14 hE hkt wf_RX4_119 dX4_begin_28 ?_
  refine g_aload_n hE dX4_begin_31 rfl ?_
  refine g_lconst hE 0 dX4_begin_32 rfl ?_
  refine ptX4_15 hE hkt wf_RX4_122 dX4_begin_33 ?_
  refine g_aload_n hE dX4_begin_36 rfl ?_
  refine g_iconst hE (-1) dX4_begin_37 (by decide) ?_
  refine ptX4_16 hE hkt wf_RX4_126 dX4_begin_38 ?_
  obtain rfl := so1 hf
  exact g_ret hE rfl dX4_begin_41
set_option maxHeartbeats 4000000 in
set_option maxRecDepth 100000 in
theorem c_X4_bringIn {l : Launch} {w : WC} {t : Nat} {week_ : Int32} {z : Sg} {z0 : Sg} (hkt : kd false t = KX4) (hf : f_X4_bringIn t week_ z = some z0) : CT false l iX4_bringIn w [.ref t, .int week_] z none z0 := by
  refine ct_of 1 (lv := [some (.ref t), some (.int week_), none]) (by decide +kernel) rfl (Nat.le_of_ble_eq_true rfl) rfl (fun M hl hw hE => ?_)
  subst hl
  subst hw
  unfold f_X4_bringIn at hf
  refine g_aload_n hE dX4_bringIn_0 rfl ?_
  refine gtX4_12 hE hkt wf_RX4_113 dX4_bringIn_1 ?_
  refine g_aload_n hE dX4_bringIn_4 rfl ?_
  refine gtX4_13 hE hkt wf_RX4_116 dX4_bringIn_5 ?_
  refine g_ior hE dX4_bringIn_8 ?_
  refine g_aload_n hE dX4_bringIn_9 rfl ?_
  refine gtX4_14 hE hkt wf_RX4_119 dX4_bringIn_10 ?_
  refine g_ior hE dX4_bringIn_13 ?_
  refine g_istore_n [some _, some _, some _] hE dX4_bringIn_14 (by decide) rfl ?_
  refine g_aload_n hE dX4_bringIn_15 rfl ?_
  refine gtX4_6 hE hkt wf_RX4_24 dX4_bringIn_16 ?_
  refine g_iload_n hE dX4_bringIn_19 rfl ?_
  refine g_aload_n hE dX4_bringIn_20 rfl ?_
  refine gtX4_1 hE hkt wf_RX4_11 dX4_bringIn_21 ?_
  refine g_iload_n hE dX4_bringIn_24 rfl ?_
  obtain ⟨h1, hf⟩ := ck_of hf
  refine g_iald hE (rlX4_1 hkt) h1 dX4_bringIn_25 ?_
  refine g_iload_n hE dX4_bringIn_26 rfl ?_
  refine g_iconst hE (-1) dX4_bringIn_27 (by decide) ?_
  refine g_ixor hE dX4_bringIn_28 ?_
  refine g_iand hE dX4_bringIn_29 ?_
  obtain ⟨h2, hf⟩ := ck_of hf
  refine g_iast hE (rlX4_6 hkt) h2 dX4_bringIn_30 ?_
  refine g_aload_n hE dX4_bringIn_31 rfl ?_
  refine g_dup hE dX4_bringIn_32 rfl ?_
  refine gtX4_12 hE hkt wf_RX4_113 dX4_bringIn_33 ?_
  refine g_aload_n hE dX4_bringIn_36 rfl ?_
  refine gtX4_6 hE hkt wf_RX4_24 dX4_bringIn_37 ?_
  refine g_iload_n hE dX4_bringIn_40 rfl ?_
  obtain ⟨h3, hf⟩ := ck_of hf
  refine g_iald hE (rlX4_6 hkt) h3 dX4_bringIn_41 ?_
  refine g_ior hE dX4_bringIn_42 ?_
  refine ptX4_12 hE hkt wf_RX4_113 dX4_bringIn_43 ?_
  obtain rfl := so1 hf
  exact g_ret hE rfl dX4_bringIn_46
set_option maxHeartbeats 4000000 in
set_option maxRecDepth 100000 in
theorem c_X4_sell {l : Launch} {w : WC} {t : Nat} {week_ : Int32} {z : Sg} {z0 : Sg} (hkt : kd false t = KX4) (hf : f_X4_sell t week_ z = some z0) : CT false l iX4_sell w [.ref t, .int week_] z none z0 := by
  refine ct_of 3 (lv := [some (.ref t), some (.int week_), none, none, none]) (by decide +kernel) rfl (Nat.le_of_ble_eq_true rfl) rfl (fun M hl hw hE => ?_)
  subst hl
  subst hw
  unfold f_X4_sell at hf
  refine g_iload_n hE dX4_sell_0 rfl ?_
  refine g_aload_n hE dX4_sell_1 rfl ?_
  refine gtX4_0 hE hkt wf_RX4_42 dX4_sell_2 ?_
  refine gtX2_4 hE kX_9 wf_RX4_135 dX4_sell_5 ?_
  refine g_isub hE dX4_sell_8 ?_
  refine g_iconst hE (1) dX4_sell_9 (by decide) ?_
  refine g_iadd hE dX4_sell_10 ?_
  refine g_istore_n [some _, some _, some _, none, none] hE dX4_sell_11 (by decide) rfl ?_
  obtain ⟨x1, hx2, hf⟩ := b1_of hf
  have hJ3 : G false iX4_sell M (none, z0) 31 [some (.ref t), some (.int week_), some (.int ((week_ - (rI z 9 4)) + (1 : Int32))), none, none] [.int x1] z := by
    refine g_istore_n [some _, some _, some _, some _, none] hE dX4_sell_31 (by decide) rfl ?_
    refine g_iload_n hE dX4_sell_32 rfl ?_
    refine g_if_ne 37 hE dX4_sell_33 (by decide) (fun h4 => ?_) (fun h4 => ?_)
    · replace hf := it_f hf h4
      refine g_aload_n hE dX4_sell_37 rfl ?_
      refine g_dup hE dX4_sell_38 rfl ?_
      refine gtX4_12 hE hkt wf_RX4_113 dX4_sell_39 ?_
      refine g_iload_n hE dX4_sell_42 rfl ?_
      refine g_iconst hE (-1) dX4_sell_43 (by decide) ?_
      refine g_ixor hE dX4_sell_44 ?_
      refine g_iand hE dX4_sell_45 ?_
      refine ptX4_12 hE hkt wf_RX4_113 dX4_sell_46 ?_
      refine g_aload_n hE dX4_sell_49 rfl ?_
      refine g_dup hE dX4_sell_50 rfl ?_
      refine gtX4_14 hE hkt wf_RX4_119 dX4_sell_51 ?_
      refine g_iload_n hE dX4_sell_54 rfl ?_
      refine g_ior hE dX4_sell_55 ?_
      refine ptX4_14 hE hkt wf_RX4_119 dX4_sell_56 ?_
      refine g_iconst hE (0) dX4_sell_59 (by decide) ?_
      refine g_istore [some _, some _, some _, some _, some _] hE dX4_sell_60 (by decide) rfl ?_
      obtain ⟨z12, hx10, hf⟩ := b1_of hf
      have hJ11 : G false iX4_sell M (none, z0) 93 [some (.ref t), some (.int week_), some (.int ((week_ - (rI z 9 4)) + (1 : Int32))), some (.int x1), none] [] z12 := by
        obtain rfl := so1 hf
        exact g_ret hE rfl dX4_sell_93
      clear hf
      have hl7 : ∀ (n9 : Nat) (v_5 : Int32) (z6 : Sg), f_X4_sell_lp1 t week_ x1 n9 v_5 z6 = some z12 → G false iX4_sell M (none, z0) 62 [some (.ref t), some (.int week_), some (.int ((week_ - (rI z 9 4)) + (1 : Int32))), some (.int x1), some (.int v_5)] [] z6 := by
        intro n9
        induction n9 with
        | zero => intro v_5 z6 hf; cases hf
        | succ n9 ih8 =>
          intro v_5 z6 hf
          rw [f_X4_sell_lp1] at hf
          refine g_iload hE dX4_sell_62 rfl ?_
          refine g_bipush hE (8) dX4_sell_64 (by decide) ?_
          refine g_icmp_ge 93 hE dX4_sell_66 (by decide) (fun h13 => ?_) (fun h13 => ?_)
          · replace hf := it_f hf (cv_ngt h13)
            obtain rfl := so1 hf
            exact g_wk [true, true, true, true, false] rfl hJ11
          · replace hf := it_t hf (cv_gt h13)
            obtain ⟨z16, hx14, hf⟩ := b1_of hf
            have hJ15 : G false iX4_sell M (none, z0) 87 [some (.ref t), some (.int week_), some (.int ((week_ - (rI z 9 4)) + (1 : Int32))), some (.int x1), some (.int v_5)] [] z16 := by
              refine g_iinc [some _, some _, some _, some _, some _] hE (v_5 + (1 : Int32)) dX4_sell_87 rfl rfl (by decide) rfl ?_
              refine g_goto 62 hE dX4_sell_90 (by decide) ?_
              exact (ih8 _ _ hf)
            replace hf := hx14
            clear hx14
            refine g_iload_n hE dX4_sell_69 rfl ?_
            refine g_iload hE dX4_sell_70 rfl ?_
            refine g_ishr hE dX4_sell_72 ?_
            refine g_iconst hE (1) dX4_sell_73 (by decide) ?_
            refine g_iand hE dX4_sell_74 ?_
            refine g_iconst hE (1) dX4_sell_75 (by decide) ?_
            refine g_icmp_ne 87 hE dX4_sell_76 (by decide) (fun h17 => ?_) (fun h17 => ?_)
            · replace hf := it_f hf h17
              obtain rfl := so1 hf
              exact hJ15
            · replace hf := it_t hf h17
              refine g_aload_n hE dX4_sell_79 rfl ?_
              refine gtX4_11 hE hkt wf_RX4_39 dX4_sell_80 ?_
              refine g_iload hE dX4_sell_83 rfl ?_
              refine g_iload_n hE dX4_sell_85 rfl ?_
              obtain ⟨h18, hf⟩ := ck_of hf
              refine g_iast hE (rlX4_11 hkt) h18 dX4_sell_86 ?_
              obtain rfl := so1 hf
              exact hJ15
      exact hl7 _ _ _ hx10
    · replace hf := it_t hf h4
      obtain rfl := so1 hf
      exact g_ret hE rfl dX4_sell_36
  replace hf := hx2
  clear hx2
  refine g_iload_n hE dX4_sell_12 rfl ?_
  refine g_if_ge 20 hE dX4_sell_13 (by decide) (fun h19 => ?_) (fun h19 => ?_)
  · replace hf := it_f hf (cv_ngt h19)
    refine g_aload_n hE dX4_sell_20 rfl ?_
    refine gtX4_12 hE hkt wf_RX4_113 dX4_sell_21 ?_
    refine g_aload_n hE dX4_sell_24 rfl ?_
    refine gtX4_6 hE hkt wf_RX4_24 dX4_sell_25 ?_
    refine g_iload_n hE dX4_sell_28 rfl ?_
    obtain ⟨h20, hf⟩ := ck_of hf
    refine g_iald hE (rlX4_6 hkt) h20 dX4_sell_29 ?_
    refine g_iand hE dX4_sell_30 ?_
    obtain rfl := so1 hf
    exact hJ3
  · replace hf := it_t hf (cv_gt h19)
    refine g_iconst hE (0) dX4_sell_16 (by decide) ?_
    refine g_goto 31 hE dX4_sell_17 (by decide) ?_
    obtain rfl := so1 hf
    exact hJ3
set_option maxHeartbeats 4000000 in
set_option maxRecDepth 100000 in
theorem c_X2_leastWorthOf {l : Launch} {w : WC} {some_ : Int32} {z : Sg} {r0 : Int32} (hf : f_X2_leastWorthOf some_ z = some r0) : CT false l iX2_leastWorthOf w [.ref 9, .int some_] z (some (.int r0)) z := by
  refine ct_of 3 (lv := [some (.ref 9), some (.int some_), none, none, none]) (by decide +kernel) rfl (Nat.le_of_ble_eq_true rfl) rfl (fun M hl hw hE => ?_)
  subst hl
  subst hw
  unfold f_X2_leastWorthOf at hf
  refine g_iconst hE (-1) dX2_leastWorthOf_0 (by decide) ?_
  refine g_istore_n [some _, some _, some _, none, none] hE dX2_leastWorthOf_1 (by decide) rfl ?_
  refine g_iconst hE (0) dX2_leastWorthOf_2 (by decide) ?_
  refine g_istore_n [some _, some _, some _, some _, none] hE dX2_leastWorthOf_3 (by decide) rfl ?_
  obtain ⟨best_8, hx6, hf⟩ := b1_of hf
  have hJ7 : G false iX2_leastWorthOf M (some (.int r0), z) 70 [some (.ref 9), some (.int some_), some (.int best_8), none, none] [] z := by
    refine g_iload_n hE dX2_leastWorthOf_70 rfl ?_
    obtain rfl := so1 hf
    exact g_iret hE rfl dX2_leastWorthOf_71
  clear hf
  have hl3 : ∀ (n5 : Nat) (best_1 : Int32) (v_2 : Int32), f_X2_leastWorthOf_lp1 some_ z n5 best_1 v_2 = some best_8 → G false iX2_leastWorthOf M (some (.int r0), z) 4 [some (.ref 9), some (.int some_), some (.int best_1), some (.int v_2), none] [] z := by
    intro n5
    induction n5 with
    | zero => intro best_1 v_2 hf; cases hf
    | succ n5 ih4 =>
      intro best_1 v_2 hf
      rw [f_X2_leastWorthOf_lp1] at hf
      refine g_iload_n hE dX2_leastWorthOf_4 rfl ?_
      refine g_aload_n hE dX2_leastWorthOf_5 rfl ?_
      refine gtX2_0 hE kX_9 wf_RX2_18 dX2_leastWorthOf_6 ?_
      refine gtX1_5 hE kX_1 wf_RX2_34 dX2_leastWorthOf_9 ?_
      refine g_icmp_ge 70 hE dX2_leastWorthOf_12 (by decide) (fun h9 => ?_) (fun h9 => ?_)
      · replace hf := it_f hf (cv_ngt h9)
        obtain rfl := so1 hf
        exact g_wk [true, true, true, false, false] rfl hJ7
      · replace hf := it_t hf (cv_gt h9)
        obtain ⟨x10, hx11, hf⟩ := b1_of hf
        have hJ12 : G false iX2_leastWorthOf M (some (.int r0), z) 29 [some (.ref 9), some (.int some_), some (.int best_1), some (.int v_2), none] [.int x10] z := by
          refine g_istore [some _, some _, some _, some _, some _] hE dX2_leastWorthOf_29 (by decide) rfl ?_
          obtain ⟨best_15, hx13, hf⟩ := b1_of hf
          have hJ14 : G false iX2_leastWorthOf M (some (.int r0), z) 64 [some (.ref 9), some (.int some_), some (.int best_15), some (.int v_2), some (.int x10)] [] z := by
            refine g_wk [true, true, true, true, false] rfl ?_
            refine g_iinc [some _, some _, some _, some _, none] hE (v_2 + (1 : Int32)) dX2_leastWorthOf_64 rfl rfl (by decide) rfl ?_
            refine g_goto 4 hE dX2_leastWorthOf_67 (by decide) ?_
            exact (ih4 _ _ hf)
          replace hf := hx13
          clear hx13
          obtain ⟨q16, hx17, hf⟩ := b1_of hf
          have hT18 : q16 = true → G false iX2_leastWorthOf M (some (.int r0), z) 62 [some (.ref 9), some (.int some_), some (.int best_1), some (.int v_2), some (.int x10)] [] z := by
            intro hq20
            replace hf := it_t hf hq20
            refine g_iload_n hE dX2_leastWorthOf_62 rfl ?_
            refine g_istore_n [some _, some _, some _, some _, some _] hE dX2_leastWorthOf_63 (by decide) rfl ?_
            obtain rfl := so1 hf
            exact hJ14
          have hF19 : q16 = false → G false iX2_leastWorthOf M (some (.int r0), z) 64 [some (.ref 9), some (.int some_), some (.int best_1), some (.int v_2), some (.int x10)] [] z := by
            intro hq20
            replace hf := it_f hf (by rw [hq20]; decide)
            obtain rfl := so1 hf
            exact hJ14
          replace hf := hx17
          clear hx17
          refine g_iload hE dX2_leastWorthOf_31 rfl ?_
          refine g_if_eq 64 hE dX2_leastWorthOf_33 (by decide) (fun h21 => ?_) (fun h21 => ?_)
          · replace hf := it_f hf (fun q => q h21)
            obtain rfl := so1 hf
            exact hF19 rfl
          · replace hf := it_t hf h21
            refine g_iload_n hE dX2_leastWorthOf_36 rfl ?_
            refine g_iconst hE (-1) dX2_leastWorthOf_37 (by decide) ?_
            refine g_icmp_eq 62 hE dX2_leastWorthOf_38 (by decide) (fun h22 => ?_) (fun h22 => ?_)
            · replace hf := it_t hf h22
              obtain rfl := so1 hf
              exact hT18 rfl
            · replace hf := it_f hf h22
              refine g_aload_n hE dX2_leastWorthOf_41 rfl ?_
              refine gtX2_0 hE kX_9 wf_RX2_18 dX2_leastWorthOf_42 ?_
              refine gtX1_3 hE kX_1 wf_RX2_50 dX2_leastWorthOf_45 ?_
              show G false iX2_leastWorthOf M (some (.int r0), z) 48 [some (.ref 9), some (.int some_), some (.int best_1), some (.int v_2), some (.int x10)] [.ref 4] z
              refine g_iload_n hE dX2_leastWorthOf_48 rfl ?_
              obtain ⟨h23, hf⟩ := ck_of hf
              refine g_iald hE kX_4 h23 dX2_leastWorthOf_49 ?_
              refine g_aload_n hE dX2_leastWorthOf_50 rfl ?_
              refine gtX2_0 hE kX_9 wf_RX2_18 dX2_leastWorthOf_51 ?_
              refine gtX1_3 hE kX_1 wf_RX2_50 dX2_leastWorthOf_54 ?_
              show G false iX2_leastWorthOf M (some (.int r0), z) 57 [some (.ref 9), some (.int some_), some (.int best_1), some (.int v_2), some (.int x10)] [.ref 4, .int (rI z 4 (ix v_2))] z
              refine g_iload_n hE dX2_leastWorthOf_57 rfl ?_
              obtain ⟨h24, hf⟩ := ck_of hf
              refine g_iald hE kX_4 h24 dX2_leastWorthOf_58 ?_
              refine g_icmp_ge 64 hE dX2_leastWorthOf_59 (by decide) (fun h25 => ?_) (fun h25 => ?_)
              · replace hf := it_f hf (cv_ngt h25)
                obtain rfl := so1 hf
                exact hF19 rfl
              · replace hf := it_t hf (cv_gt h25)
                obtain rfl := so1 hf
                exact hT18 rfl
        replace hf := hx11
        clear hx11
        refine g_iload_n hE dX2_leastWorthOf_15 rfl ?_
        refine g_iload_n hE dX2_leastWorthOf_16 rfl ?_
        refine g_ishr hE dX2_leastWorthOf_17 ?_
        refine g_iconst hE (1) dX2_leastWorthOf_18 (by decide) ?_
        refine g_iand hE dX2_leastWorthOf_19 ?_
        refine g_iconst hE (1) dX2_leastWorthOf_20 (by decide) ?_
        refine g_icmp_ne 28 hE dX2_leastWorthOf_21 (by decide) (fun h26 => ?_) (fun h26 => ?_)
        · replace hf := it_f hf h26
          refine g_iconst hE (0) dX2_leastWorthOf_28 (by decide) ?_
          obtain rfl := so1 hf
          exact hJ12
        · replace hf := it_t hf h26
          refine g_iconst hE (1) dX2_leastWorthOf_24 (by decide) ?_
          refine g_goto 29 hE dX2_leastWorthOf_25 (by decide) ?_
          obtain rfl := so1 hf
          exact hJ12
  exact hl3 _ _ _ hx6
set_option maxHeartbeats 4000000 in
set_option maxRecDepth 100000 in
theorem c_X4_give {l : Launch} {w : WC} {t : Nat} {week_ : Int32} {who_ : Int32} {one_ : Int32} {z : Sg} {z0 : Sg} (hkt : kd false t = KX4) (hf : f_X4_give t week_ who_ one_ z = some z0) : CT false l iX4_give w [.ref t, .int week_, .int who_, .int one_] z none z0 := by
  refine ct_of 0 (lv := [some (.ref t), some (.int week_), some (.int who_), some (.int one_)]) (by decide +kernel) rfl (Nat.le_of_ble_eq_true rfl) rfl (fun M hl hw hE => ?_)
  subst hl
  subst hw
  unfold f_X4_give at hf
  refine g_aload_n hE dX4_give_0 rfl ?_
  refine g_dup hE dX4_give_1 rfl ?_
  refine gtX4_12 hE hkt wf_RX4_113 dX4_give_2 ?_
  refine g_iconst hE (1) dX4_give_5 (by decide) ?_
  refine g_iload_n hE dX4_give_6 rfl ?_
  refine g_ishl hE dX4_give_7 ?_
  refine g_iconst hE (-1) dX4_give_8 (by decide) ?_
  refine g_ixor hE dX4_give_9 ?_
  refine g_iand hE dX4_give_10 ?_
  refine ptX4_12 hE hkt wf_RX4_113 dX4_give_11 ?_
  refine g_aload_n hE dX4_give_14 rfl ?_
  refine g_dup hE dX4_give_15 rfl ?_
  refine gtX4_13 hE hkt wf_RX4_116 dX4_give_16 ?_
  refine g_iconst hE (1) dX4_give_19 (by decide) ?_
  refine g_iload_n hE dX4_give_20 rfl ?_
  refine g_ishl hE dX4_give_21 ?_
  refine g_ior hE dX4_give_22 ?_
  refine ptX4_13 hE hkt wf_RX4_116 dX4_give_23 ?_
  refine g_aload_n hE dX4_give_26 rfl ?_
  refine gtX4_10 hE hkt wf_RX4_36 dX4_give_27 ?_
  refine g_iload_n hE dX4_give_30 rfl ?_
  refine g_iload_n hE dX4_give_31 rfl ?_
  obtain ⟨h1, hf⟩ := ck_of hf
  refine g_iast hE (rlX4_10 hkt) h1 dX4_give_32 ?_
  refine g_aload_n hE dX4_give_33 rfl ?_
  refine gtX4_11 hE hkt wf_RX4_39 dX4_give_34 ?_
  refine g_iload_n hE dX4_give_37 rfl ?_
  refine g_iload_n hE dX4_give_38 rfl ?_
  obtain ⟨h2, hf⟩ := ck_of hf
  refine g_iast hE (rlX4_11 hkt) h2 dX4_give_39 ?_
  obtain rfl := so1 hf
  exact g_ret hE rfl dX4_give_40
set_option maxHeartbeats 4000000 in
set_option maxRecDepth 100000 in
theorem c_X4_serve {l : Launch} {w : WC} {t : Nat} {week_ : Int32} {ticket_ : Int32} {z : Sg} {z0 : Sg} (hkt : kd false t = KX4) (hf : f_X4_serve t week_ ticket_ z = some z0) : CT false l iX4_serve w [.ref t, .int week_, .int ticket_] z none z0 := by
  refine ct_of 3 (lv := [some (.ref t), some (.int week_), some (.int ticket_), none, none, none]) (by decide +kernel) rfl (Nat.le_of_ble_eq_true rfl) rfl (fun M hl hw hE => ?_)
  subst hl
  subst hw
  unfold f_X4_serve at hf
  refine g_iload_n hE dX4_serve_0 rfl ?_
  refine g_bipush hE (8) dX4_serve_1 (by decide) ?_
  refine g_irem hE dX4_serve_3 (by decide) ?_
  refine g_istore_n [some _, some _, some _, some _, none, none] hE dX4_serve_4 (by decide) rfl ?_
  refine g_iload_n hE dX4_serve_5 rfl ?_
  refine g_sipush hE (512) dX4_serve_6 (by decide) ?_
  refine g_irem hE dX4_serve_9 (by decide) ?_
  refine g_bipush hE (8) dX4_serve_10 (by decide) ?_
  refine g_idiv hE dX4_serve_12 (by decide) ?_
  refine g_istore [some _, some _, some _, some _, some _, none] hE dX4_serve_13 (by decide) rfl ?_
  refine g_aload_n hE dX4_serve_15 rfl ?_
  refine gtX4_0 hE hkt wf_RX4_42 dX4_serve_16 ?_
  refine g_aload_n hE dX4_serve_19 rfl ?_
  refine gtX4_12 hE hkt wf_RX4_113 dX4_serve_20 ?_
  refine g_aload_n hE dX4_serve_23 rfl ?_
  refine gtX4_5 hE hkt wf_RX4_21 dX4_serve_24 ?_
  refine g_iload_n hE dX4_serve_27 rfl ?_
  obtain ⟨h1, hf⟩ := ck_of hf
  refine g_iald hE (rlX4_5 hkt) h1 dX4_serve_28 ?_
  refine g_iand hE dX4_serve_29 ?_
  obtain ⟨r3, hc2, hf⟩ := b1_of hf
  refine g_callV1r hE mv_X2_leastWorthOf kX_9 rfl wm_RX4_129 (by decide) (Nat.le_of_ble_eq_true rfl) dX4_serve_30 (c_X2_leastWorthOf hc2) ?_
  refine g_istore [some _, some _, some _, some _, some _, some _] hE dX4_serve_33 (by decide) rfl ?_
  obtain ⟨z6, hx4, hf⟩ := b1_of hf
  have hJ5 : G false iX4_serve M (none, z0) 98 [some (.ref t), some (.int week_), some (.int ticket_), some (.int (jrem ticket_ (8 : Int32))), some (.int ((jrem ticket_ (512 : Int32)) / (8 : Int32))), some (.int r3)] [] z6 := by
    obtain rfl := so1 hf
    exact g_ret hE rfl dX4_serve_98
  replace hf := hx4
  clear hx4
  refine g_iload hE dX4_serve_35 rfl ?_
  refine g_iconst hE (-1) dX4_serve_37 (by decide) ?_
  refine g_icmp_eq 65 hE dX4_serve_38 (by decide) (fun h7 => ?_) (fun h7 => ?_)
  · replace hf := it_f hf (fun q => q h7)
    obtain ⟨z10, hx8, hf⟩ := b1_of hf
    have hJ9 : G false iX4_serve M (none, z0) 98 [some (.ref t), some (.int week_), some (.int ticket_), some (.int (jrem ticket_ (8 : Int32))), some (.int ((jrem ticket_ (512 : Int32)) / (8 : Int32))), some (.int r3)] [] z10 := by
      obtain rfl := so1 hf
      exact hJ5
    replace hf := hx8
    clear hx8
    obtain ⟨q11, hx12, hf⟩ := b1_of hf
    have hT13 : q11 = true → G false iX4_serve M (none, z0) 92 [some (.ref t), some (.int week_), some (.int ticket_), some (.int (jrem ticket_ (8 : Int32))), some (.int ((jrem ticket_ (512 : Int32)) / (8 : Int32))), some (.int r3)] [] z := by
      intro hq15
      replace hf := it_t hf hq15
      refine g_aload_n hE dX4_serve_92 rfl ?_
      refine g_iload hE dX4_serve_93 rfl ?_
      refine ptX4_16 hE hkt wf_RX4_126 dX4_serve_95 ?_
      obtain rfl := so1 hf
      exact hJ9
    have hF14 : q11 = false → G false iX4_serve M (none, z0) 98 [some (.ref t), some (.int week_), some (.int ticket_), some (.int (jrem ticket_ (8 : Int32))), some (.int ((jrem ticket_ (512 : Int32)) / (8 : Int32))), some (.int r3)] [] z := by
      intro hq15
      replace hf := it_f hf (by rw [hq15]; decide)
      obtain rfl := so1 hf
      exact hJ9
    replace hf := hx12
    clear hx12
    refine g_aload_n hE dX4_serve_65 rfl ?_
    refine gtX4_16 hE hkt wf_RX4_126 dX4_serve_66 ?_
    refine g_iconst hE (-1) dX4_serve_69 (by decide) ?_
    refine g_icmp_ne 98 hE dX4_serve_70 (by decide) (fun h16 => ?_) (fun h16 => ?_)
    · replace hf := it_f hf h16
      obtain rfl := so1 hf
      exact hF14 rfl
    · replace hf := it_t hf h16
      refine g_aload_n hE dX4_serve_73 rfl ?_
      refine gtX4_13 hE hkt wf_RX4_116 dX4_serve_74 ?_
      refine g_aload_n hE dX4_serve_77 rfl ?_
      refine gtX4_14 hE hkt wf_RX4_119 dX4_serve_78 ?_
      refine g_ior hE dX4_serve_81 ?_
      refine g_aload_n hE dX4_serve_82 rfl ?_
      refine gtX4_4 hE hkt wf_RX4_18 dX4_serve_83 ?_
      refine g_iload_n hE dX4_serve_86 rfl ?_
      obtain ⟨h17, hf⟩ := ck_of hf
      refine g_iald hE (rlX4_4 hkt) h17 dX4_serve_87 ?_
      refine g_iand hE dX4_serve_88 ?_
      refine g_if_eq 98 hE dX4_serve_89 (by decide) (fun h18 => ?_) (fun h18 => ?_)
      · replace hf := it_f hf (fun q => q h18)
        obtain rfl := so1 hf
        exact hF14 rfl
      · replace hf := it_t hf h18
        obtain rfl := so1 hf
        exact hT13 rfl
  · replace hf := it_t hf h7
    refine g_aload_n hE dX4_serve_41 rfl ?_
    refine g_iload_n hE dX4_serve_42 rfl ?_
    refine g_iload_n hE dX4_serve_43 rfl ?_
    refine g_iload hE dX4_serve_44 rfl ?_
    obtain ⟨z20, hc19, hf⟩ := b1_of hf
    refine g_callV3v hE mv_X4_give hkt rfl wm_RX4_132 (by decide) (Nat.le_of_ble_eq_true rfl) dX4_serve_46 (c_X4_give hkt hc19) ?_
    refine g_aload_n hE dX4_serve_49 rfl ?_
    refine g_dup hE dX4_serve_50 rfl ?_
    refine gtX4_15 hE hkt wf_RX4_122 dX4_serve_51 ?_
    refine g_lconst hE 1 dX4_serve_54 rfl ?_
    refine g_iload hE dX4_serve_55 rfl ?_
    refine g_lshl hE dX4_serve_57 ?_
    refine g_lor hE dX4_serve_58 ?_
    refine ptX4_15 hE hkt wf_RX4_122 dX4_serve_59 ?_
    refine g_goto 98 hE dX4_serve_62 (by decide) ?_
    obtain rfl := so1 hf
    exact hJ5
set_option maxHeartbeats 4000000 in
set_option maxRecDepth 100000 in
theorem c_X4_play {l : Launch} {w : WC} {t : Nat} {last_ : Int32} {z : Sg} {z0 : Sg} (hkt : kd false t = KX4) (hf : f_X4_play t last_ z = some z0) : CT false l iX4_play w [.ref t, .int last_] z none z0 := by
  refine ct_of 2 (lv := [some (.ref t), some (.int last_), none, none]) (by decide +kernel) rfl (Nat.le_of_ble_eq_true rfl) rfl (fun M hl hw hE => ?_)
  subst hl
  subst hw
  unfold f_X4_play at hf
  refine g_aload_n hE dX4_play_0 rfl ?_
  obtain ⟨z2, hc1, hf⟩ := b1_of hf
  refine g_callV0v hE mv_X4_begin hkt rfl wm_RX4_100 (by decide) (Nat.le_of_ble_eq_true rfl) dX4_play_1 (c_X4_begin hkt hc1) ?_
  refine g_iconst hE (0) dX4_play_4 (by decide) ?_
  refine g_istore_n [some _, some _, some _, none] hE dX4_play_5 (by decide) rfl ?_
  refine g_iconst hE (0) dX4_play_6 (by decide) ?_
  refine g_istore_n [some _, some _, some _, some _] hE dX4_play_7 (by decide) rfl ?_
  obtain ⟨next_11, z12, hx9, hf⟩ := b2_of hf
  have hJ10 : G false iX4_play M (none, z0) 104 [some (.ref t), some (.int last_), some (.int next_11), none] [] z12 := by
    obtain rfl := so1 hf
    exact g_ret hE rfl dX4_play_104
  clear hf
  have hl6 : ∀ (n8 : Nat) (next_3 : Int32) (week_4 : Int32) (z5 : Sg), f_X4_play_lp1 t last_ n8 next_3 week_4 z5 = some (next_11, z12) → G false iX4_play M (none, z0) 8 [some (.ref t), some (.int last_), some (.int next_3), some (.int week_4)] [] z5 := by
    intro n8
    induction n8 with
    | zero => intro next_3 week_4 z5 hf; cases hf
    | succ n8 ih7 =>
      intro next_3 week_4 z5 hf
      rw [f_X4_play_lp1] at hf
      obtain ⟨q13, hx14, hf⟩ := b1_of hf
      have hT15 : q13 = true → G false iX4_play M (none, z0) 19 [some (.ref t), some (.int last_), some (.int next_3), some (.int week_4)] [] z5 := by
        intro hq17
        replace hf := it_t hf hq17
        refine g_aload_n hE dX4_play_19 rfl ?_
        refine g_iload_n hE dX4_play_20 rfl ?_
        obtain ⟨z19, hc18, hf⟩ := b1_of hf
        refine g_callV1v hE mv_X4_bringIn hkt rfl wm_RX4_103 (by decide) (Nat.le_of_ble_eq_true rfl) dX4_play_21 (c_X4_bringIn hkt hc18) ?_
        obtain ⟨next_27, z28, hx25, hf⟩ := b2_of hf
        have hJ26 : G false iX4_play M (none, z0) 63 [some (.ref t), some (.int last_), some (.int next_27), some (.int week_4)] [] z28 := by
          refine g_aload_n hE dX4_play_63 rfl ?_
          refine g_iload_n hE dX4_play_64 rfl ?_
          obtain ⟨z30, hc29, hf⟩ := b1_of hf
          refine g_callV1v hE mv_X4_sell hkt rfl wm_RX4_110 (by decide) (Nat.le_of_ble_eq_true rfl) dX4_play_65 (c_X4_sell hkt hc29) ?_
          refine g_aload_n hE dX4_play_68 rfl ?_
          refine gtX4_7 hE hkt wf_RX4_27 dX4_play_69 ?_
          refine g_iload_n hE dX4_play_72 rfl ?_
          refine g_aload_n hE dX4_play_73 rfl ?_
          refine gtX4_12 hE hkt wf_RX4_113 dX4_play_74 ?_
          obtain ⟨h31, hf⟩ := ck_of hf
          refine g_iast hE (rlX4_7 hkt) h31 dX4_play_77 ?_
          refine g_aload_n hE dX4_play_78 rfl ?_
          refine gtX4_8 hE hkt wf_RX4_30 dX4_play_79 ?_
          refine g_iload_n hE dX4_play_82 rfl ?_
          refine g_aload_n hE dX4_play_83 rfl ?_
          refine gtX4_13 hE hkt wf_RX4_116 dX4_play_84 ?_
          obtain ⟨h32, hf⟩ := ck_of hf
          refine g_iast hE (rlX4_8 hkt) h32 dX4_play_87 ?_
          refine g_aload_n hE dX4_play_88 rfl ?_
          refine gtX4_9 hE hkt wf_RX4_33 dX4_play_89 ?_
          refine g_iload_n hE dX4_play_92 rfl ?_
          refine g_aload_n hE dX4_play_93 rfl ?_
          refine gtX4_14 hE hkt wf_RX4_119 dX4_play_94 ?_
          obtain ⟨h33, hf⟩ := ck_of hf
          refine g_iast hE (rlX4_9 hkt) h33 dX4_play_97 ?_
          refine g_iinc [some _, some _, some _, some _] hE (week_4 + (1 : Int32)) dX4_play_98 rfl rfl (by decide) rfl ?_
          refine g_goto 8 hE dX4_play_101 (by decide) ?_
          exact (ih7 _ _ _ hf)
        clear hf
        have hl22 : ∀ (n24 : Nat) (next_20 : Int32) (z21 : Sg), f_X4_play_lp2 t week_4 n24 next_20 z21 = some (next_27, z28) → G false iX4_play M (none, z0) 24 [some (.ref t), some (.int last_), some (.int next_20), some (.int week_4)] [] z21 := by
          intro n24
          induction n24 with
          | zero => intro next_20 z21 hf; cases hf
          | succ n24 ih23 =>
            intro next_20 z21 hf
            rw [f_X4_play_lp2] at hf
            obtain ⟨q34, hx35, hf⟩ := b1_of hf
            have hT36 : q34 = true → G false iX4_play M (none, z0) 46 [some (.ref t), some (.int last_), some (.int next_20), some (.int week_4)] [] z21 := by
              intro hq38
              replace hf := it_t hf hq38
              refine g_aload_n hE dX4_play_46 rfl ?_
              refine g_iload_n hE dX4_play_47 rfl ?_
              refine g_aload_n hE dX4_play_48 rfl ?_
              refine gtX4_2 hE hkt wf_RX4_15 dX4_play_49 ?_
              refine g_iload_n hE dX4_play_52 rfl ?_
              obtain ⟨h39, hf⟩ := ck_of hf
              refine g_iald hE (rlX4_2 hkt) h39 dX4_play_53 ?_
              obtain ⟨z41, hc40, hf⟩ := b1_of hf
              refine g_callV2v hE mv_X4_serve hkt rfl wm_RX4_107 (by decide) (Nat.le_of_ble_eq_true rfl) dX4_play_54 (c_X4_serve hkt hc40) ?_
              refine g_iinc [some _, some _, some _, some _] hE (next_20 + (1 : Int32)) dX4_play_57 rfl rfl (by decide) rfl ?_
              refine g_goto 24 hE dX4_play_60 (by decide) ?_
              exact (ih23 _ _ hf)
            have hF37 : q34 = false → G false iX4_play M (none, z0) 63 [some (.ref t), some (.int last_), some (.int next_20), some (.int week_4)] [] z21 := by
              intro hq38
              replace hf := it_f hf (by rw [hq38]; decide)
              obtain ⟨rfl, rfl⟩ := so2 hf
              exact hJ26
            replace hf := hx35
            clear hx35
            refine g_iload_n hE dX4_play_24 rfl ?_
            refine g_aload_n hE dX4_play_25 rfl ?_
            refine gtX4_3 hE hkt wf_RX4_52 dX4_play_26 ?_
            refine g_icmp_ge 63 hE dX4_play_29 (by decide) (fun h42 => ?_) (fun h42 => ?_)
            · replace hf := it_f hf (cv_ngt h42)
              obtain rfl := so1 hf
              exact hF37 rfl
            · replace hf := it_t hf (cv_gt h42)
              refine g_aload_n hE dX4_play_32 rfl ?_
              refine gtX4_2 hE hkt wf_RX4_15 dX4_play_33 ?_
              refine g_iload_n hE dX4_play_36 rfl ?_
              obtain ⟨h43, hf⟩ := ck_of hf
              refine g_iald hE (rlX4_2 hkt) h43 dX4_play_37 ?_
              refine g_sipush hE (5120) dX4_play_38 (by decide) ?_
              refine g_idiv hE dX4_play_41 (by decide) ?_
              refine g_iload_n hE dX4_play_42 rfl ?_
              refine g_icmp_ne 63 hE dX4_play_43 (by decide) (fun h44 => ?_) (fun h44 => ?_)
              · replace hf := it_f hf h44
                obtain rfl := so1 hf
                exact hF37 rfl
              · replace hf := it_t hf h44
                obtain rfl := so1 hf
                exact hT36 rfl
        exact hl22 _ _ _ hx25
      have hF16 : q13 = false → G false iX4_play M (none, z0) 104 [some (.ref t), some (.int last_), some (.int next_3), some (.int week_4)] [] z5 := by
        intro hq17
        replace hf := it_f hf (by rw [hq17]; decide)
        obtain ⟨rfl, rfl⟩ := so2 hf
        exact g_wk [true, true, true, false] rfl hJ10
      replace hf := hx14
      clear hx14
      refine g_iload_n hE dX4_play_8 rfl ?_
      refine g_iload_n hE dX4_play_9 rfl ?_
      refine g_icmp_gt 104 hE dX4_play_10 (by decide) (fun h45 => ?_) (fun h45 => ?_)
      · replace hf := it_f hf (cv_nge h45)
        obtain rfl := so1 hf
        exact hF16 rfl
      · replace hf := it_t hf (cv_ge h45)
        refine g_iload_n hE dX4_play_13 rfl ?_
        refine g_bipush hE (40) dX4_play_14 (by decide) ?_
        refine g_icmp_ge 104 hE dX4_play_16 (by decide) (fun h46 => ?_) (fun h46 => ?_)
        · replace hf := it_f hf (cv_ngt h46)
          obtain rfl := so1 hf
          exact hF16 rfl
        · replace hf := it_t hf (cv_gt h46)
          obtain rfl := so1 hf
          exact hT15 rfl
  exact hl6 _ _ _ _ hx9
set_option maxHeartbeats 4000000 in
set_option maxRecDepth 100000 in
theorem c_X7_toldRun {l : Launch} {w : WC} {z : Sg} {r0 : Nat} {z0 : Sg} (hf : f_X7_toldRun z = some (r0, z0)) : CT false l iX7_toldRun w [.ref 0] z (some (.ref r0)) z0 := by
  refine ct_of 0 (lv := [some (.ref 0)]) (by decide +kernel) rfl (Nat.le_of_ble_eq_true rfl) rfl (fun M hl hw hE => ?_)
  subst hl
  subst hw
  unfold f_X7_toldRun at hf
  obtain ⟨z3, hx1, hf⟩ := b1_of hf
  have hJ2 : G false iX7_toldRun M (some (.ref r0), z0) 36 [some (.ref 0)] [] z3 := by
    refine g_aload_n hE dX7_toldRun_36 rfl ?_
    refine gtX7_6 hE kX_0 wf_RX7_52 dX7_toldRun_37 ?_
    obtain ⟨rfl, rfl⟩ := so2 hf
    exact g_aret hE rfl dX7_toldRun_40
  replace hf := hx1
  clear hx1
  refine g_aload_n hE dX7_toldRun_0 rfl ?_
  refine gtX7_10 hE kX_0 wf_RX7_128 dX7_toldRun_1 ?_
  refine g_if_ne 36 hE dX7_toldRun_4 (by decide) (fun h4 => ?_) (fun h4 => ?_)
  · replace hf := it_t hf h4
    obtain rfl := so1 hf
    exact hJ2
  · replace hf := it_f hf (fun q => q h4)
    refine g_aload_n hE dX7_toldRun_7 rfl ?_
    refine gtX7_6 hE kX_0 wf_RX7_52 dX7_toldRun_8 ?_
    refine g_aload_n hE dX7_toldRun_11 rfl ?_
    refine gtX7_3 hE kX_0 wf_RX7_33 dX7_toldRun_12 ?_
    refine g_aload_n hE dX7_toldRun_15 rfl ?_
    refine gtX7_4 hE kX_0 wf_RX7_37 dX7_toldRun_16 ?_
    obtain ⟨z6, hc5, hf⟩ := b1_of hf
    refine g_callV2v hE mv_X4_load kX_20 rfl wm_RX7_253 (by decide) (Nat.le_of_ble_eq_true rfl) dX7_toldRun_19 (c_X4_load kX_20 kX_10 kX_13 hc5) ?_
    refine g_aload_n hE dX7_toldRun_22 rfl ?_
    refine gtX7_6 hE kX_0 wf_RX7_52 dX7_toldRun_23 ?_
    refine g_bipush hE (39) dX7_toldRun_26 (by decide) ?_
    obtain ⟨z8, hc7, hf⟩ := b1_of hf
    refine g_callV1v hE mv_X4_play kX_20 rfl wm_RX7_264 (by decide) (Nat.le_of_ble_eq_true rfl) dX7_toldRun_28 (c_X4_play kX_20 hc7) ?_
    refine g_aload_n hE dX7_toldRun_31 rfl ?_
    refine g_iconst hE (1) dX7_toldRun_32 (by decide) ?_
    refine ptX7_10 hE kX_0 wf_RX7_128 rfl rfl dX7_toldRun_33 ?_
    obtain rfl := so1 hf
    exact hJ2
set_option maxHeartbeats 4000000 in
set_option maxRecDepth 100000 in
theorem c_X7_behind {l : Launch} {w : WC} {week_ : Int32} {what_ : Int32} {z : Sg} {r0 : Int32} {z0 : Sg} (hf : f_X7_behind week_ what_ z = some (r0, z0)) : CT false l iX7_behind w [.ref 0, .int week_, .int what_] z (some (.int r0)) z0 := by
  refine ct_of 1 (lv := [some (.ref 0), some (.int week_), some (.int what_), none]) (by decide +kernel) rfl (Nat.le_of_ble_eq_true rfl) rfl (fun M hl hw hE => ?_)
  subst hl
  subst hw
  unfold f_X7_behind at hf
  obtain ⟨q1, hx2, hf⟩ := b1_of hf
  have hT3 : q1 = true → G false iX7_behind M (some (.int r0), z0) 17 [some (.ref 0), some (.int week_), some (.int what_), none] [] z := by
    intro hq5
    replace hf := it_t hf hq5
    refine g_bipush hE (-2) dX7_behind_17 (by decide) ?_
    obtain ⟨rfl, rfl⟩ := so2 hf
    exact g_iret hE rfl dX7_behind_19
  have hF4 : q1 = false → G false iX7_behind M (some (.int r0), z0) 20 [some (.ref 0), some (.int week_), some (.int what_), none] [] z := by
    intro hq5
    replace hf := it_f hf (by rw [hq5]; decide)
    refine g_aload_n hE dX7_behind_20 rfl ?_
    obtain ⟨r8, z7, hc6, hf⟩ := b2_of hf
    refine g_callV0r hE mv_X7_toldRun kX_0 rfl wm_RX7_151 (by decide) (Nat.le_of_ble_eq_true rfl) dX7_behind_21 (c_X7_toldRun hc6) ?_
    obtain ⟨hk9, hf⟩ := ck_of hf
    refine g_astore_n [some _, some _, some _, some _] hE dX7_behind_24 (by decide) rfl ?_
    refine g_iload_n hE dX7_behind_25 rfl ?_
    refine g_if_ne 36 hE dX7_behind_26 (by decide) (fun h10 => ?_) (fun h10 => ?_)
    · replace hf := it_f hf h10
      obtain ⟨x11, hx12, hf⟩ := b1_of hf
      have hJ13 : G false iX7_behind M (some (.int r0), z0) 56 [some (.ref 0), some (.int week_), some (.int what_), some (.ref r8)] [.int x11] z7 := by
        obtain ⟨rfl, rfl⟩ := so2 hf
        exact g_iret hE rfl dX7_behind_56
      replace hf := hx12
      clear hx12
      refine g_iload_n hE dX7_behind_36 rfl ?_
      refine g_iconst hE (1) dX7_behind_37 (by decide) ?_
      refine g_icmp_ne 50 hE dX7_behind_38 (by decide) (fun h14 => ?_) (fun h14 => ?_)
      · replace hf := it_f hf h14
        refine g_aload_n hE dX7_behind_50 rfl ?_
        refine gtX4_9 hE hk9 wf_RX7_161 dX7_behind_51 ?_
        refine g_iload_n hE dX7_behind_54 rfl ?_
        obtain ⟨h15, hf⟩ := ck_of hf
        refine g_iald hE (rlX4_9 hk9) h15 dX7_behind_55 ?_
        obtain rfl := so1 hf
        exact hJ13
      · replace hf := it_t hf h14
        refine g_aload_n hE dX7_behind_41 rfl ?_
        refine gtX4_8 hE hk9 wf_RX7_158 dX7_behind_42 ?_
        refine g_iload_n hE dX7_behind_45 rfl ?_
        obtain ⟨h16, hf⟩ := ck_of hf
        refine g_iald hE (rlX4_8 hk9) h16 dX7_behind_46 ?_
        refine g_goto 56 hE dX7_behind_47 (by decide) ?_
        obtain rfl := so1 hf
        exact hJ13
    · replace hf := it_t hf h10
      refine g_aload_n hE dX7_behind_29 rfl ?_
      refine gtX4_7 hE hk9 wf_RX7_155 dX7_behind_30 ?_
      refine g_iload_n hE dX7_behind_33 rfl ?_
      obtain ⟨h17, hf⟩ := ck_of hf
      refine g_iald hE (rlX4_7 hk9) h17 dX7_behind_34 ?_
      obtain ⟨rfl, rfl⟩ := so2 hf
      exact g_iret hE rfl dX7_behind_35
  replace hf := hx2
  clear hx2
  refine g_iload_n hE dX7_behind_0 rfl ?_
  refine g_bipush hE (40) dX7_behind_1 (by decide) ?_
  obtain ⟨r19, hc18, hf⟩ := b1_of hf
  refine g_callS2r hE ms_X7_outside wm_RX7_73 (by decide) (Nat.le_of_ble_eq_true rfl) dX7_behind_3 (c_X7_outside hc18) ?_
  refine g_if_ne 17 hE dX7_behind_6 (by decide) (fun h20 => ?_) (fun h20 => ?_)
  · replace hf := it_t hf h20
    obtain rfl := so1 hf
    exact hT3 rfl
  · replace hf := it_f hf (fun q => q h20)
    refine g_iload_n hE dX7_behind_9 rfl ?_
    refine g_iconst hE (3) dX7_behind_10 (by decide) ?_
    obtain ⟨r22, hc21, hf⟩ := b1_of hf
    refine g_callS2r hE ms_X7_outside wm_RX7_73 (by decide) (Nat.le_of_ble_eq_true rfl) dX7_behind_11 (c_X7_outside hc21) ?_
    refine g_if_eq 20 hE dX7_behind_14 (by decide) (fun h23 => ?_) (fun h23 => ?_)
    · replace hf := it_f hf (fun q => q h23)
      obtain rfl := so1 hf
      exact hF4 rfl
    · replace hf := it_t hf h23
      obtain rfl := so1 hf
      exact hT3 rfl
set_option maxHeartbeats 4000000 in
set_option maxRecDepth 100000 in
theorem c_X7_gone {l : Launch} {w : WC} {virtue_ : Int32} {what_ : Int32} {z : Sg} {r0 : Int32} {z0 : Sg} (hf : f_X7_gone virtue_ what_ z = some (r0, z0)) : CT false l iX7_gone w [.ref 0, .int virtue_, .int what_] z (some (.int r0)) z0 := by
  refine ct_of 1 (lv := [some (.ref 0), some (.int virtue_), some (.int what_), none]) (by decide +kernel) rfl (Nat.le_of_ble_eq_true rfl) rfl (fun M hl hw hE => ?_)
  subst hl
  subst hw
  unfold f_X7_gone at hf
  obtain ⟨q1, hx2, hf⟩ := b1_of hf
  have hT3 : q1 = true → G false iX7_gone M (some (.int r0), z0) 16 [some (.ref 0), some (.int virtue_), some (.int what_), none] [] z := by
    intro hq5
    replace hf := it_t hf hq5
    refine g_bipush hE (-2) dX7_gone_16 (by decide) ?_
    obtain ⟨rfl, rfl⟩ := so2 hf
    exact g_iret hE rfl dX7_gone_18
  have hF4 : q1 = false → G false iX7_gone M (some (.int r0), z0) 19 [some (.ref 0), some (.int virtue_), some (.int what_), none] [] z := by
    intro hq5
    replace hf := it_f hf (by rw [hq5]; decide)
    refine g_aload_n hE dX7_gone_19 rfl ?_
    obtain ⟨r8, z7, hc6, hf⟩ := b2_of hf
    refine g_callV0r hE mv_X7_toldRun kX_0 rfl wm_RX7_151 (by decide) (Nat.le_of_ble_eq_true rfl) dX7_gone_20 (c_X7_toldRun hc6) ?_
    obtain ⟨hk9, hf⟩ := ck_of hf
    refine g_astore_n [some _, some _, some _, some _] hE dX7_gone_23 (by decide) rfl ?_
    obtain ⟨x10, hx11, hf⟩ := b1_of hf
    have hJ12 : G false iX7_gone M (some (.int r0), z0) 43 [some (.ref 0), some (.int virtue_), some (.int what_), some (.ref r8)] [.int x10] z7 := by
      obtain ⟨rfl, rfl⟩ := so2 hf
      exact g_iret hE rfl dX7_gone_43
    replace hf := hx11
    clear hx11
    refine g_iload_n hE dX7_gone_24 rfl ?_
    refine g_if_ne 37 hE dX7_gone_25 (by decide) (fun h13 => ?_) (fun h13 => ?_)
    · replace hf := it_f hf h13
      refine g_aload_n hE dX7_gone_37 rfl ?_
      refine gtX4_11 hE hk9 wf_RX7_167 dX7_gone_38 ?_
      refine g_iload_n hE dX7_gone_41 rfl ?_
      obtain ⟨h14, hf⟩ := ck_of hf
      refine g_iald hE (rlX4_11 hk9) h14 dX7_gone_42 ?_
      obtain rfl := so1 hf
      exact hJ12
    · replace hf := it_t hf h13
      refine g_aload_n hE dX7_gone_28 rfl ?_
      refine gtX4_10 hE hk9 wf_RX7_164 dX7_gone_29 ?_
      refine g_iload_n hE dX7_gone_32 rfl ?_
      obtain ⟨h15, hf⟩ := ck_of hf
      refine g_iald hE (rlX4_10 hk9) h15 dX7_gone_33 ?_
      refine g_goto 43 hE dX7_gone_34 (by decide) ?_
      obtain rfl := so1 hf
      exact hJ12
  replace hf := hx2
  clear hx2
  refine g_aload_n hE dX7_gone_0 rfl ?_
  refine g_iload_n hE dX7_gone_1 rfl ?_
  obtain ⟨r17, hc16, hf⟩ := b1_of hf
  refine g_callV1r hE mv_X7_noVirtue kX_0 rfl wm_RX7_102 (by decide) (Nat.le_of_ble_eq_true rfl) dX7_gone_2 (c_X7_noVirtue hc16) ?_
  refine g_if_ne 16 hE dX7_gone_5 (by decide) (fun h18 => ?_) (fun h18 => ?_)
  · replace hf := it_t hf h18
    obtain rfl := so1 hf
    exact hT3 rfl
  · replace hf := it_f hf (fun q => q h18)
    refine g_iload_n hE dX7_gone_8 rfl ?_
    refine g_iconst hE (2) dX7_gone_9 (by decide) ?_
    obtain ⟨r20, hc19, hf⟩ := b1_of hf
    refine g_callS2r hE ms_X7_outside wm_RX7_73 (by decide) (Nat.le_of_ble_eq_true rfl) dX7_gone_10 (c_X7_outside hc19) ?_
    refine g_if_eq 19 hE dX7_gone_13 (by decide) (fun h21 => ?_) (fun h21 => ?_)
    · replace hf := it_f hf (fun q => q h21)
      obtain rfl := so1 hf
      exact hF4 rfl
    · replace hf := it_t hf h21
      obtain rfl := so1 hf
      exact hT3 rfl
set_option maxHeartbeats 4000000 in
set_option maxRecDepth 100000 in
theorem c_X7_empty {l : Launch} {w : WC} {z : Sg} {r0 : Int32} {z0 : Sg} (hf : f_X7_empty z = some (r0, z0)) : CT false l iX7_empty w [.ref 0] z (some (.int r0)) z0 := by
  refine ct_of 3 (lv := [some (.ref 0), none, none, none]) (by decide +kernel) rfl (Nat.le_of_ble_eq_true rfl) rfl (fun M hl hw hE => ?_)
  subst hl
  subst hw
  unfold f_X7_empty at hf
  refine g_aload_n hE dX7_empty_0 rfl ?_
  obtain ⟨r3, z2, hc1, hf⟩ := b2_of hf
  refine g_callV0r hE mv_X7_toldRun kX_0 rfl wm_RX7_151 (by decide) (Nat.le_of_ble_eq_true rfl) dX7_empty_1 (c_X7_toldRun hc1) ?_
  obtain ⟨hk4, hf⟩ := ck_of hf
  refine gtX4_15 hE hk4 wf_RX7_170 dX7_empty_4 ?_
  refine g_lstore_n [some _, some _, none, none] hE dX7_empty_7 (by decide) rfl ?_
  refine g_iconst hE (1) dX7_empty_8 (by decide) ?_
  refine g_aload_n hE dX7_empty_9 rfl ?_
  refine gtX7_4 hE kX_0 wf_RX7_37 dX7_empty_10 ?_
  refine gtX0_2 hE kX_13 wf_RX7_135 dX7_empty_13 ?_
  refine g_ishl hE dX7_empty_16 ?_
  refine g_iconst hE (1) dX7_empty_17 (by decide) ?_
  refine g_isub hE dX7_empty_18 ?_
  refine g_istore_n [some _, some _, none, some _] hE dX7_empty_19 (by decide) rfl ?_
  refine g_iload_n hE dX7_empty_20 rfl ?_
  refine g_lload_n hE dX7_empty_21 rfl ?_
  refine g_l2i hE dX7_empty_22 ?_
  refine g_iconst hE (-1) dX7_empty_23 (by decide) ?_
  refine g_ixor hE dX7_empty_24 ?_
  refine g_iand hE dX7_empty_25 ?_
  obtain ⟨rfl, rfl⟩ := so2 hf
  exact g_iret hE rfl dX7_empty_26
set_option maxHeartbeats 4000000 in
set_option maxRecDepth 100000 in
theorem c_X7_sale {l : Launch} {w : WC} {z : Sg} {r0 : Int32} {z0 : Sg} (hf : f_X7_sale z = some (r0, z0)) : CT false l iX7_sale w [.ref 0] z (some (.int r0)) z0 := by
  refine ct_of 3 (lv := [some (.ref 0), none, none, none]) (by decide +kernel) rfl (Nat.le_of_ble_eq_true rfl) rfl (fun M hl hw hE => ?_)
  subst hl
  subst hw
  unfold f_X7_sale at hf
  refine g_aload_n hE dX7_sale_0 rfl ?_
  obtain ⟨r3, z2, hc1, hf⟩ := b2_of hf
  refine g_callV0r hE mv_X7_toldRun kX_0 rfl wm_RX7_151 (by decide) (Nat.le_of_ble_eq_true rfl) dX7_sale_1 (c_X7_toldRun hc1) ?_
  obtain ⟨hk4, hf⟩ := ck_of hf
  refine gtX4_14 hE hk4 wf_RX7_174 dX7_sale_4 ?_
  refine g_istore_n [some _, some _, none, none] hE dX7_sale_7 (by decide) rfl ?_
  refine g_iconst hE (0) dX7_sale_8 (by decide) ?_
  refine g_istore_n [some _, some _, some _, none] hE dX7_sale_9 (by decide) rfl ?_
  refine g_iconst hE (0) dX7_sale_10 (by decide) ?_
  refine g_istore_n [some _, some _, some _, some _] hE dX7_sale_11 (by decide) rfl ?_
  obtain ⟨worth_12, hx10, hf⟩ := b1_of hf
  have hJ11 : G false iX7_sale M (some (.int r0), z0) 50 [some (.ref 0), some (.int (rI z2 r3 14)), some (.int worth_12), none] [] z2 := by
    refine g_iload_n hE dX7_sale_50 rfl ?_
    obtain ⟨rfl, rfl⟩ := so2 hf
    exact g_iret hE rfl dX7_sale_51
  clear hf
  have hl7 : ∀ (n9 : Nat) (worth_5 : Int32) (v_6 : Int32), f_X7_sale_lp1 (rI z2 r3 14) z2 n9 worth_5 v_6 = some worth_12 → G false iX7_sale M (some (.int r0), z0) 12 [some (.ref 0), some (.int (rI z2 r3 14)), some (.int worth_5), some (.int v_6)] [] z2 := by
    intro n9
    induction n9 with
    | zero => intro worth_5 v_6 hf; cases hf
    | succ n9 ih8 =>
      intro worth_5 v_6 hf
      rw [f_X7_sale_lp1] at hf
      refine g_iload_n hE dX7_sale_12 rfl ?_
      refine g_aload_n hE dX7_sale_13 rfl ?_
      refine gtX7_0 hE kX_0 wf_RX7_12 dX7_sale_14 ?_
      refine gtX1_5 hE kX_1 wf_RX7_177 dX7_sale_17 ?_
      refine g_icmp_ge 50 hE dX7_sale_20 (by decide) (fun h13 => ?_) (fun h13 => ?_)
      · replace hf := it_f hf (cv_ngt h13)
        obtain rfl := so1 hf
        exact g_wk [true, true, true, false] rfl hJ11
      · replace hf := it_t hf (cv_gt h13)
        obtain ⟨worth_16, hx14, hf⟩ := b1_of hf
        have hJ15 : G false iX7_sale M (some (.int r0), z0) 44 [some (.ref 0), some (.int (rI z2 r3 14)), some (.int worth_16), some (.int v_6)] [] z2 := by
          refine g_iinc [some _, some _, some _, some _] hE (v_6 + (1 : Int32)) dX7_sale_44 rfl rfl (by decide) rfl ?_
          refine g_goto 12 hE dX7_sale_47 (by decide) ?_
          exact (ih8 _ _ hf)
        replace hf := hx14
        clear hx14
        refine g_iload_n hE dX7_sale_23 rfl ?_
        refine g_iload_n hE dX7_sale_24 rfl ?_
        refine g_ishr hE dX7_sale_25 ?_
        refine g_iconst hE (1) dX7_sale_26 (by decide) ?_
        refine g_iand hE dX7_sale_27 ?_
        refine g_iconst hE (1) dX7_sale_28 (by decide) ?_
        refine g_icmp_ne 44 hE dX7_sale_29 (by decide) (fun h17 => ?_) (fun h17 => ?_)
        · replace hf := it_f hf h17
          obtain rfl := so1 hf
          exact hJ15
        · replace hf := it_t hf h17
          refine g_iload_n hE dX7_sale_32 rfl ?_
          refine g_aload_n hE dX7_sale_33 rfl ?_
          refine gtX7_0 hE kX_0 wf_RX7_12 dX7_sale_34 ?_
          refine gtX1_3 hE kX_1 wf_RX7_110 dX7_sale_37 ?_
          show G false iX7_sale M (some (.int r0), z0) 40 [some (.ref 0), some (.int (rI z2 r3 14)), some (.int worth_5), some (.int v_6)] [.ref 4, .int worth_5] z2
          refine g_iload_n hE dX7_sale_40 rfl ?_
          obtain ⟨h18, hf⟩ := ck_of hf
          refine g_iald hE kX_4 h18 dX7_sale_41 ?_
          refine g_iadd hE dX7_sale_42 ?_
          refine g_istore_n [some _, some _, some _, some _] hE dX7_sale_43 (by decide) rfl ?_
          obtain rfl := so1 hf
          exact hJ15
  exact hl7 _ _ _ hx10
set_option maxHeartbeats 4000000 in
set_option maxRecDepth 100000 in
theorem c_X7_saint {l : Launch} {w : WC} {z : Sg} {r0 : Int32} {z0 : Sg} (hf : f_X7_saint z = some (r0, z0)) : CT false l iX7_saint w [.ref 0] z (some (.int r0)) z0 := by
  refine ct_of 0 (lv := [some (.ref 0)]) (by decide +kernel) rfl (Nat.le_of_ble_eq_true rfl) rfl (fun M hl hw hE => ?_)
  subst hl
  subst hw
  unfold f_X7_saint at hf
  refine g_aload_n hE dX7_saint_0 rfl ?_
  obtain ⟨r3, z2, hc1, hf⟩ := b2_of hf
  refine g_callV0r hE mv_X7_toldRun kX_0 rfl wm_RX7_151 (by decide) (Nat.le_of_ble_eq_true rfl) dX7_saint_1 (c_X7_toldRun hc1) ?_
  obtain ⟨hk4, hf⟩ := ck_of hf
  refine gtX4_16 hE hk4 wf_RX7_180 dX7_saint_4 ?_
  obtain ⟨rfl, rfl⟩ := so2 hf
  exact g_iret hE rfl dX7_saint_7
