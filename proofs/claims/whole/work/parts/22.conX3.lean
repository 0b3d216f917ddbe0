/-! CONTRACTS. Printed by wip/whole/gen/mkall.py out of the Java text. -/
set_option maxHeartbeats 4000000 in
set_option maxRecDepth 100000 in
theorem c_X2_claimantsFitting {l : Launch} {w : WC} {virtue_ : Int32} {z : Sg} {r0 : Int32} (hf : f_X2_claimantsFitting virtue_ z = some r0) : CT false l iX2_claimantsFitting w [.ref 9, .int virtue_] z (some (.int r0)) z := by
  refine ct_of 2 (lv := [some (.ref 9), some (.int virtue_), none, none]) (by decide +kernel) rfl (Nat.le_of_ble_eq_true rfl) rfl (fun M hl hw hE => ?_)
  subst hl
  subst hw
  unfold f_X2_claimantsFitting at hf
  refine g_iconst hE (0) dX2_claimantsFitting_0 (by decide) ?_
  refine g_istore_n [some _, some _, some _, none] hE dX2_claimantsFitting_1 (by decide) rfl ?_
  refine g_iconst hE (0) dX2_claimantsFitting_2 (by decide) ?_
  refine g_istore_n [some _, some _, some _, some _] hE dX2_claimantsFitting_3 (by decide) rfl ?_
  obtain ⟨bits_8, hx6, hf⟩ := b1_of hf
  have hJ7 : G false iX2_claimantsFitting M (some (.int r0), z) 36 [some (.ref 9), some (.int virtue_), some (.int bits_8), none] [] z := by
    refine g_iload_n hE dX2_claimantsFitting_36 rfl ?_
    obtain rfl := so1 hf
    exact g_iret hE rfl dX2_claimantsFitting_37
  clear hf
  have hl3 : ∀ (n5 : Nat) (bits_1 : Int32) (c_2 : Int32), f_X2_claimantsFitting_lp1 virtue_ z n5 bits_1 c_2 = some bits_8 → G false iX2_claimantsFitting M (some (.int r0), z) 4 [some (.ref 9), some (.int virtue_), some (.int bits_1), some (.int c_2)] [] z := by
    intro n5
    induction n5 with
    | zero => intro bits_1 c_2 hf; cases hf
    | succ n5 ih4 =>
      intro bits_1 c_2 hf
      rw [f_X2_claimantsFitting_lp1] at hf
      refine g_iload_n hE dX2_claimantsFitting_4 rfl ?_
      refine g_aload_n hE dX2_claimantsFitting_5 rfl ?_
      refine gtX2_1 hE kX_9 wf_RX2_22 dX2_claimantsFitting_6 ?_
      refine gtX1_5 hE kX_5 wf_RX2_34 dX2_claimantsFitting_9 ?_
      refine g_icmp_ge 36 hE dX2_claimantsFitting_12 (by decide) (fun h9 => ?_) (fun h9 => ?_)
      · replace hf := it_f hf (cv_ngt h9)
        obtain rfl := so1 hf
        exact g_wk [true, true, true, false] rfl hJ7
      · replace hf := it_t hf (cv_gt h9)
        obtain ⟨bits_12, hx10, hf⟩ := b1_of hf
        have hJ11 : G false iX2_claimantsFitting M (some (.int r0), z) 30 [some (.ref 9), some (.int virtue_), some (.int bits_12), some (.int c_2)] [] z := by
          refine g_iinc [some _, some _, some _, some _] hE (c_2 + (1 : Int32)) dX2_claimantsFitting_30 rfl rfl (by decide) rfl ?_
          refine g_goto 4 hE dX2_claimantsFitting_33 (by decide) ?_
          exact (ih4 _ _ hf)
        replace hf := hx10
        clear hx10
        refine g_aload_n hE dX2_claimantsFitting_15 rfl ?_
        refine g_iload_n hE dX2_claimantsFitting_16 rfl ?_
        refine g_iload_n hE dX2_claimantsFitting_17 rfl ?_
        obtain ⟨r14, hc13, hf⟩ := b1_of hf
        refine g_callV2r hE mv_X2_isFitting kX_9 rfl wm_RX2_37 (by decide) (Nat.le_of_ble_eq_true rfl) dX2_claimantsFitting_18 (c_X2_isFitting hc13) ?_
        refine g_if_eq 30 hE dX2_claimantsFitting_21 (by decide) (fun h15 => ?_) (fun h15 => ?_)
        · replace hf := it_f hf (fun q => q h15)
          obtain rfl := so1 hf
          exact hJ11
        · replace hf := it_t hf h15
          refine g_iload_n hE dX2_claimantsFitting_24 rfl ?_
          refine g_iconst hE (1) dX2_claimantsFitting_25 (by decide) ?_
          refine g_iload_n hE dX2_claimantsFitting_26 rfl ?_
          refine g_ishl hE dX2_claimantsFitting_27 ?_
          refine g_ior hE dX2_claimantsFitting_28 ?_
          refine g_istore_n [some _, some _, some _, some _] hE dX2_claimantsFitting_29 (by decide) rfl ?_
          obtain rfl := so1 hf
          exact hJ11
  exact hl3 _ _ _ hx6
set_option maxHeartbeats 4000000 in
set_option maxRecDepth 100000 in
theorem c_X7_fitting {l : Launch} {w : WC} {what_ : Int32} {i_ : Int32} {z : Sg} {r0 : Int32} (hf : f_X7_fitting what_ i_ z = some r0) : CT false l iX7_fitting w [.ref 0, .int what_, .int i_] z (some (.int r0)) z := by
  refine ct_of 0 (lv := [some (.ref 0), some (.int what_), some (.int i_)]) (by decide +kernel) rfl (Nat.le_of_ble_eq_true rfl) rfl (fun M hl hw hE => ?_)
  subst hl
  subst hw
  unfold f_X7_fitting at hf
  refine g_iload_n hE dX7_fitting_0 rfl ?_
  refine g_if_ne 26 hE dX7_fitting_1 (by decide) (fun h1 => ?_) (fun h1 => ?_)
  · replace hf := it_f hf h1
    refine g_iload_n hE dX7_fitting_26 rfl ?_
    refine g_iconst hE (1) dX7_fitting_27 (by decide) ?_
    refine g_icmp_ne 53 hE dX7_fitting_28 (by decide) (fun h2 => ?_) (fun h2 => ?_)
    · replace hf := it_f hf h2
      refine g_bipush hE (-2) dX7_fitting_53 (by decide) ?_
      obtain rfl := so1 hf
      exact g_iret hE rfl dX7_fitting_55
    · replace hf := it_t hf h2
      obtain ⟨x3, hx4, hf⟩ := b1_of hf
      have hJ5 : G false iX7_fitting M (some (.int r0), z) 52 [some (.ref 0), some (.int what_), some (.int i_)] [.int x3] z := by
        obtain rfl := so1 hf
        exact g_iret hE rfl dX7_fitting_52
      replace hf := hx4
      clear hx4
      refine g_aload_n hE dX7_fitting_31 rfl ?_
      refine g_iload_n hE dX7_fitting_32 rfl ?_
      obtain ⟨r7, hc6, hf⟩ := b1_of hf
      refine g_callV1r hE mv_X7_noVirtue kX_0 rfl wm_RX7_102 (by decide) (Nat.le_of_ble_eq_true rfl) dX7_fitting_33 (c_X7_noVirtue hc6) ?_
      refine g_if_eq 44 hE dX7_fitting_36 (by decide) (fun h8 => ?_) (fun h8 => ?_)
      · replace hf := it_f hf (fun q => q h8)
        refine g_aload_n hE dX7_fitting_44 rfl ?_
        refine gtX7_2 hE kX_0 wf_RX7_26 dX7_fitting_45 ?_
        refine g_iload_n hE dX7_fitting_48 rfl ?_
        obtain ⟨r10, hc9, hf⟩ := b1_of hf
        refine g_callV1r hE mv_X2_claimantsFitting kX_9 rfl wm_RX7_186 (by decide) (Nat.le_of_ble_eq_true rfl) dX7_fitting_49 (c_X2_claimantsFitting hc9) ?_
        obtain rfl := so1 hf
        exact hJ5
      · replace hf := it_t hf h8
        refine g_bipush hE (-2) dX7_fitting_39 (by decide) ?_
        refine g_goto 52 hE dX7_fitting_41 (by decide) ?_
        obtain rfl := so1 hf
        exact hJ5
  · replace hf := it_t hf h1
    obtain ⟨x11, hx12, hf⟩ := b1_of hf
    have hJ13 : G false iX7_fitting M (some (.int r0), z) 25 [some (.ref 0), some (.int what_), some (.int i_)] [.int x11] z := by
      obtain rfl := so1 hf
      exact g_iret hE rfl dX7_fitting_25
    replace hf := hx12
    clear hx12
    refine g_aload_n hE dX7_fitting_4 rfl ?_
    refine g_iload_n hE dX7_fitting_5 rfl ?_
    obtain ⟨r15, hc14, hf⟩ := b1_of hf
    refine g_callV1r hE mv_X7_noClaimant kX_0 rfl wm_RX7_113 (by decide) (Nat.le_of_ble_eq_true rfl) dX7_fitting_6 (c_X7_noClaimant hc14) ?_
    refine g_if_eq 17 hE dX7_fitting_9 (by decide) (fun h16 => ?_) (fun h16 => ?_)
    · replace hf := it_f hf (fun q => q h16)
      refine g_aload_n hE dX7_fitting_17 rfl ?_
      refine gtX7_2 hE kX_0 wf_RX7_26 dX7_fitting_18 ?_
      refine g_iload_n hE dX7_fitting_21 rfl ?_
      obtain ⟨r18, hc17, hf⟩ := b1_of hf
      refine g_callV1r hE mv_X2_virtuesFittedBy kX_9 rfl wm_RX7_183 (by decide) (Nat.le_of_ble_eq_true rfl) dX7_fitting_22 (c_X2_virtuesFittedBy hc17) ?_
      obtain rfl := so1 hf
      exact hJ13
    · replace hf := it_t hf h16
      refine g_bipush hE (-2) dX7_fitting_12 (by decide) ?_
      refine g_goto 25 hE dX7_fitting_14 (by decide) ?_
      obtain rfl := so1 hf
      exact hJ13
set_option maxHeartbeats 4000000 in
set_option maxRecDepth 100000 in
theorem c_J7_fill_d0a16 {l : Launch} {w : WC} {a_ : Nat} {val_ : Int64} {n_ : Nat} {z : Sg} {z0 : Sg} (hk_a : kd false a_ = (3, n_, [])) (hf : f_J7_fill_d0a16 a_ val_ n_ z = some z0) : CT false l iJ7_fill_d0a16 w [.ref a_, .long val_] z none z0 := by
  refine ct_of 2 (lv := [some (.ref a_), some (.long val_), none, none, none]) (by decide +kernel) rfl (Nat.le_of_ble_eq_true rfl) rfl (fun M hl hw hE => ?_)
  subst hl
  subst hw
  unfold f_J7_fill_d0a16 at hf
  refine g_iconst hE (0) dJ7_fill_d0a16_0 (by decide) ?_
  refine g_istore_n [some _, some _, none, some _, none] hE dJ7_fill_d0a16_1 (by decide) rfl ?_
  refine g_aload_n hE dJ7_fill_d0a16_2 rfl ?_
  refine g_alenJ (v := (Int32.ofNat n_)) hE hk_a rfl dJ7_fill_d0a16_3 ?_
  refine g_istore [some _, some _, none, some _, some _] hE dJ7_fill_d0a16_4 (by decide) rfl ?_
  obtain ⟨z8, hx6, hf⟩ := b1_of hf
  have hJ7 : G false iJ7_fill_d0a16 M (none, z0) 22 [some (.ref a_), some (.long val_), none, none, none] [] z8 := by
    obtain rfl := so1 hf
    exact g_ret hE rfl dJ7_fill_d0a16_22
  clear hf
  have hl3 : ∀ (n5 : Nat) (i_1 : Int32) (z2 : Sg), f_J7_fill_d0a16_lp1 a_ val_ (Int32.ofNat n_) n_ n5 i_1 z2 = some z8 → G false iJ7_fill_d0a16 M (none, z0) 6 [some (.ref a_), some (.long val_), none, some (.int i_1), some (.int (Int32.ofNat n_))] [] z2 := by
    intro n5
    induction n5 with
    | zero => intro i_1 z2 hf; cases hf
    | succ n5 ih4 =>
      intro i_1 z2 hf
      rw [f_J7_fill_d0a16_lp1] at hf
      refine g_iload_n hE dJ7_fill_d0a16_6 rfl ?_
      refine g_iload hE dJ7_fill_d0a16_7 rfl ?_
      refine g_icmp_ge 22 hE dJ7_fill_d0a16_9 (by decide) (fun h9 => ?_) (fun h9 => ?_)
      · replace hf := it_f hf (cv_ngt h9)
        obtain rfl := so1 hf
        exact g_wk [true, true, false, false, false] rfl hJ7
      · replace hf := it_t hf (cv_gt h9)
        refine g_aload_n hE dJ7_fill_d0a16_12 rfl ?_
        refine g_iload_n hE dJ7_fill_d0a16_13 rfl ?_
        refine g_lload_n hE dJ7_fill_d0a16_14 rfl ?_
        obtain ⟨h10, hf⟩ := ck_of hf
        refine g_last hE hk_a h10 dJ7_fill_d0a16_15 ?_
        refine g_iinc [some _, some _, none, some _, some _] hE (i_1 + (1 : Int32)) dJ7_fill_d0a16_16 rfl rfl (by decide) rfl ?_
        refine g_goto 6 hE dJ7_fill_d0a16_19 (by decide) ?_
        exact (ih4 _ _ hf)
  exact hl3 _ _ _ hx6
set_option maxHeartbeats 4000000 in
set_option maxRecDepth 100000 in
theorem c_X3_digit {l : Launch} {w : WC} {virtue_ : Int32} {other_ : Int32} {z : Sg} {r0 : Int64} (hf : f_X3_digit virtue_ other_ = some r0) : CT false l iX3_digit w [.int virtue_, .int other_] z (some (.long r0)) z := by
  refine ct_of 0 (lv := [some (.int virtue_), some (.int other_)]) (by decide +kernel) rfl (Nat.le_of_ble_eq_true rfl) rfl (fun M hl hw hE => ?_)
  subst hl
  subst hw
  unfold f_X3_digit at hf
  refine g_bipush hE (8) dX3_digit_0 (by decide) ?_
  refine g_iload_n hE dX3_digit_2 rfl ?_
  refine g_isub hE dX3_digit_3 ?_
  refine g_i2l hE dX3_digit_4 ?_
  refine g_iconst hE (4) dX3_digit_5 (by decide) ?_
  refine g_bipush hE (7) dX3_digit_6 (by decide) ?_
  refine g_iload_n hE dX3_digit_8 rfl ?_
  refine g_isub hE dX3_digit_9 ?_
  refine g_imul hE dX3_digit_10 ?_
  refine g_lshl hE dX3_digit_11 ?_
  obtain rfl := so1 hf
  exact g_lret hE rfl dX3_digit_12
set_option maxHeartbeats 4000000 in
set_option maxRecDepth 100000 in
theorem c_X3_withOneMore {l : Launch} {w : WC} {virtue_ : Int32} {free_ : Int32} {taken_ : Int32} {worth_ : Int64} {z : Sg} {r0 : Int64} (hf : f_X3_withOneMore virtue_ free_ taken_ worth_ z = some r0) : CT false l iX3_withOneMore w [.ref 42, .int virtue_, .int free_, .int taken_, .long worth_] z (some (.long r0)) z := by
  refine ct_of 5 (lv := [some (.ref 42), some (.int virtue_), some (.int free_), some (.int taken_), some (.long worth_), none, none, none, none, none, none]) (by decide +kernel) rfl (Nat.le_of_ble_eq_true rfl) rfl (fun M hl hw hE => ?_)
  subst hl
  subst hw
  unfold f_X3_withOneMore at hf
  refine g_aload_n hE dX3_withOneMore_0 rfl ?_
  refine gtX3_0 hE kX_42 wf_RX3_11 dX3_withOneMore_1 ?_
  show G false iX3_withOneMore M (some (.long r0), z) 4 [some (.ref 42), some (.int virtue_), some (.int free_), some (.int taken_), some (.long worth_), none, none, none, none, none, none] [.ref 43] z
  refine g_iload_n hE dX3_withOneMore_4 rfl ?_
  obtain ⟨h1, hf⟩ := ck_of hf
  refine g_lald hE kX_43 h1 dX3_withOneMore_5 ?_
  refine g_lstore [some _, some _, some _, some _, some _, none, some _, none, none, none, none] hE dX3_withOneMore_6 (by decide) rfl ?_
  refine g_iconst hE (0) dX3_withOneMore_8 (by decide) ?_
  refine g_istore [some _, some _, some _, some _, some _, none, some _, none, some _, none, none] hE dX3_withOneMore_9 (by decide) rfl ?_
  obtain ⟨most_9, hx7, hf⟩ := b1_of hf
  have hJ8 : G false iX3_withOneMore M (some (.long r0), z) 77 [some (.ref 42), some (.int virtue_), some (.int free_), some (.int taken_), some (.long worth_), none, some (.long most_9), none, none, none, none] [] z := by
    refine g_lload hE dX3_withOneMore_77 rfl ?_
    obtain rfl := so1 hf
    exact g_lret hE rfl dX3_withOneMore_79
  clear hf
  have hl4 : ∀ (n6 : Nat) (most_2 : Int64) (c_3 : Int32), f_X3_withOneMore_lp1 virtue_ free_ taken_ worth_ z n6 most_2 c_3 = some most_9 → G false iX3_withOneMore M (some (.long r0), z) 11 [some (.ref 42), some (.int virtue_), some (.int free_), some (.int taken_), some (.long worth_), none, some (.long most_2), none, some (.int c_3), none, none] [] z := by
    intro n6
    induction n6 with
    | zero => intro most_2 c_3 hf; cases hf
    | succ n6 ih5 =>
      intro most_2 c_3 hf
      rw [f_X3_withOneMore_lp1] at hf
      obtain ⟨q10, hx11, hf⟩ := b1_of hf
      have hT12 : q10 = true → G false iX3_withOneMore M (some (.long r0), z) 25 [some (.ref 42), some (.int virtue_), some (.int free_), some (.int taken_), some (.long worth_), none, some (.long most_2), none, some (.int c_3), none, none] [] z := by
        intro hq14
        replace hf := it_t hf hq14
        obtain ⟨most_17, hx15, hf⟩ := b1_of hf
        have hJ16 : G false iX3_withOneMore M (some (.long r0), z) 71 [some (.ref 42), some (.int virtue_), some (.int free_), some (.int taken_), some (.long worth_), none, some (.long most_17), none, some (.int c_3), none, none] [] z := by
          refine g_iinc [some _, some _, some _, some _, some _, none, some _, none, some _, none, none] hE (c_3 + (1 : Int32)) dX3_withOneMore_71 rfl rfl (by decide) rfl ?_
          refine g_goto 11 hE dX3_withOneMore_74 (by decide) ?_
          exact (ih5 _ _ hf)
        replace hf := hx15
        clear hx15
        refine g_iload_n hE dX3_withOneMore_25 rfl ?_
        refine g_iload hE dX3_withOneMore_26 rfl ?_
        refine g_ishr hE dX3_withOneMore_28 ?_
        refine g_iconst hE (1) dX3_withOneMore_29 (by decide) ?_
        refine g_iand hE dX3_withOneMore_30 ?_
        refine g_iconst hE (1) dX3_withOneMore_31 (by decide) ?_
        refine g_icmp_ne 71 hE dX3_withOneMore_32 (by decide) (fun h18 => ?_) (fun h18 => ?_)
        · replace hf := it_f hf h18
          obtain rfl := so1 hf
          exact hJ16
        · replace hf := it_t hf h18
          refine g_aload_n hE dX3_withOneMore_35 rfl ?_
          refine gtX3_0 hE kX_42 wf_RX3_11 dX3_withOneMore_36 ?_
          show G false iX3_withOneMore M (some (.long r0), z) 39 [some (.ref 42), some (.int virtue_), some (.int free_), some (.int taken_), some (.long worth_), none, some (.long most_2), none, some (.int c_3), none, none] [.ref 43] z
          refine g_iload_n hE dX3_withOneMore_39 rfl ?_
          refine g_iconst hE (1) dX3_withOneMore_40 (by decide) ?_
          refine g_iload hE dX3_withOneMore_41 rfl ?_
          refine g_ishl hE dX3_withOneMore_43 ?_
          refine g_ior hE dX3_withOneMore_44 ?_
          obtain ⟨h19, hf⟩ := ck_of hf
          refine g_lald hE kX_43 h19 dX3_withOneMore_45 ?_
          refine g_ldc2 hE wk_RX3_52 dX3_withOneMore_46 ?_
          refine g_ladd hE dX3_withOneMore_49 ?_
          refine g_lload hE dX3_withOneMore_50 rfl ?_
          refine g_ladd hE dX3_withOneMore_52 ?_
          refine g_iload_n hE dX3_withOneMore_53 rfl ?_
          refine g_iload hE dX3_withOneMore_54 rfl ?_
          obtain ⟨r21, hc20, hf⟩ := b1_of hf
          refine g_callS2r hE ms_X3_digit wm_RX3_54 (by decide) (Nat.le_of_ble_eq_true rfl) dX3_withOneMore_56 (c_X3_digit hc20) ?_
          refine g_ladd hE dX3_withOneMore_59 ?_
          refine g_lstore [some _, some _, some _, some _, some _, none, some _, none, some _, some _, none] hE dX3_withOneMore_60 (by decide) rfl ?_
          refine g_lload hE dX3_withOneMore_62 rfl ?_
          refine g_lload hE dX3_withOneMore_64 rfl ?_
          refine g_mmaxL hE wm_RX3_58 (by decide) (Nat.le_of_ble_eq_true rfl) dX3_withOneMore_66 ?_
          refine g_lstore [some _, some _, some _, some _, some _, none, some _, none, some _, some _, none] hE dX3_withOneMore_69 (by decide) rfl ?_
          refine g_wk [true, true, true, true, true, false, true, false, true, false, false] rfl ?_
          obtain rfl := so1 hf
          exact hJ16
      have hF13 : q10 = false → G false iX3_withOneMore M (some (.long r0), z) 77 [some (.ref 42), some (.int virtue_), some (.int free_), some (.int taken_), some (.long worth_), none, some (.long most_2), none, some (.int c_3), none, none] [] z := by
        intro hq14
        replace hf := it_f hf (by rw [hq14]; decide)
        obtain rfl := so1 hf
        exact g_wk [true, true, true, true, true, false, true, false, false, false, false] rfl hJ8
      replace hf := hx11
      clear hx11
      refine g_iload_n hE dX3_withOneMore_11 rfl ?_
      refine g_iload hE dX3_withOneMore_12 rfl ?_
      refine g_ishr hE dX3_withOneMore_14 ?_
      refine g_if_eq 77 hE dX3_withOneMore_15 (by decide) (fun h22 => ?_) (fun h22 => ?_)
      · replace hf := it_f hf (fun q => q h22)
        obtain rfl := so1 hf
        exact hF13 rfl
      · replace hf := it_t hf h22
        refine g_iload hE dX3_withOneMore_18 rfl ?_
        refine g_bipush hE (8) dX3_withOneMore_20 (by decide) ?_
        refine g_icmp_ge 77 hE dX3_withOneMore_22 (by decide) (fun h23 => ?_) (fun h23 => ?_)
        · replace hf := it_f hf (cv_ngt h23)
          obtain rfl := so1 hf
          exact hF13 rfl
        · replace hf := it_t hf (cv_gt h23)
          obtain rfl := so1 hf
          exact hT12 rfl
  exact hl4 _ _ _ hx7
set_option maxHeartbeats 4000000 in
set_option maxRecDepth 100000 in
theorem c_X3_findMatch {l : Launch} {w : WC} {z : Sg} {z0 : Sg} (hf : f_X3_findMatch z = some z0) : CT false l iX3_findMatch w [.ref 42, .ref 9] z none z0 := by
  refine ct_of 6 (lv := [some (.ref 42), some (.ref 9), none, none, none, none, none, none]) (by decide +kernel) rfl (Nat.le_of_ble_eq_true rfl) rfl (fun M hl hw hE => ?_)
  subst hl
  subst hw
  unfold f_X3_findMatch at hf
  refine g_aload_n hE dX3_findMatch_0 rfl ?_
  refine gtX3_0 hE kX_42 wf_RX3_11 dX3_findMatch_1 ?_
  show G false iX3_findMatch M (none, z0) 4 [some (.ref 42), some (.ref 9), none, none, none, none, none, none] [.ref 43] z
  refine g_lconst hE 0 dX3_findMatch_4 rfl ?_
  obtain ⟨z2, hc1, hf⟩ := b1_of hf
  refine g_callS2v hE ms_J7_fill_d0a16 wm_RX3_15 (by decide) (Nat.le_of_ble_eq_true rfl) dX3_findMatch_5 (c_J7_fill_d0a16 kX_43 hc1) ?_
  refine g_iconst hE (1) dX3_findMatch_8 (by decide) ?_
  refine g_aload_n hE dX3_findMatch_9 rfl ?_
  refine gnX2_1 hE kX_9 wn_RX3_21 dX3_findMatch_10 ?_
  refine gtX1_5 hE kX_5 wf_RX3_27 dX3_findMatch_13 ?_
  refine g_ishl hE dX3_findMatch_16 ?_
  refine g_istore_n [some _, some _, some _, none, none, none, none, none] hE dX3_findMatch_17 (by decide) rfl ?_
  refine g_aload_n hE dX3_findMatch_18 rfl ?_
  refine gnX2_0 hE kX_9 wn_RX3_33 dX3_findMatch_19 ?_
  refine gtX1_5 hE kX_1 wf_RX3_27 dX3_findMatch_22 ?_
  refine g_iconst hE (1) dX3_findMatch_25 (by decide) ?_
  refine g_isub hE dX3_findMatch_26 ?_
  refine g_istore_n [some _, some _, some _, some _, none, none, none, none] hE dX3_findMatch_27 (by decide) rfl ?_
  obtain ⟨z10, hx8, hf⟩ := b1_of hf
  have hJ9 : G false iX3_findMatch M (none, z0) 98 [some (.ref 42), some (.ref 9), some (.int (jshl (1 : Int32) (rI z2 5 5))), none, none, none, none, none] [] z10 := by
    refine g_aload_n hE dX3_findMatch_98 rfl ?_
    refine g_aload_n hE dX3_findMatch_99 rfl ?_
    refine gtX3_0 hE kX_42 wf_RX3_11 dX3_findMatch_100 ?_
    show G false iX3_findMatch M (none, z0) 103 [some (.ref 42), some (.ref 9), some (.int (jshl (1 : Int32) (rI z2 5 5))), none, none, none, none, none] [.ref 43, .ref 42] z10
    refine g_iconst hE (0) dX3_findMatch_103 (by decide) ?_
    obtain ⟨h11, hf⟩ := ck_of hf
    refine g_lald hE kX_43 h11 dX3_findMatch_104 ?_
    refine ptX3_1 hE kX_42 wf_RX3_48 dX3_findMatch_105 ?_
    obtain rfl := so1 hf
    exact g_ret hE rfl dX3_findMatch_108
  clear hf
  have hl5 : ∀ (n7 : Nat) (v_3 : Int32) (z4 : Sg), f_X3_findMatch_lp1 9 (jshl (1 : Int32) (rI z2 5 5)) n7 v_3 z4 = some z10 → G false iX3_findMatch M (none, z0) 28 [some (.ref 42), some (.ref 9), some (.int (jshl (1 : Int32) (rI z2 5 5))), some (.int v_3), none, none, none, none] [] z4 := by
    intro n7
    induction n7 with
    | zero => intro v_3 z4 hf; cases hf
    | succ n7 ih6 =>
      intro v_3 z4 hf
      rw [f_X3_findMatch_lp1] at hf
      refine g_iload_n hE dX3_findMatch_28 rfl ?_
      refine g_if_lt 98 hE dX3_findMatch_29 (by decide) (fun h12 => ?_) (fun h12 => ?_)
      · replace hf := it_f hf (cv_nge h12)
        obtain rfl := so1 hf
        exact g_wk [true, true, true, false, false, false, false, false] rfl hJ9
      · replace hf := it_t hf (cv_ge h12)
        refine g_aload_n hE dX3_findMatch_32 rfl ?_
        refine g_iload_n hE dX3_findMatch_33 rfl ?_
        obtain ⟨r14, hc13, hf⟩ := b1_of hf
        refine g_callV1r hE mv_X2_claimantsFitting kX_9 rfl wm_RX3_36 (by decide) (Nat.le_of_ble_eq_true rfl) dX3_findMatch_34 (c_X2_claimantsFitting hc13) ?_
        refine g_istore [some _, some _, some _, some _, some _, none, none, none] hE dX3_findMatch_37 (by decide) rfl ?_
        refine g_aload_n hE dX3_findMatch_39 rfl ?_
        refine gnX2_0 hE kX_9 wn_RX3_33 dX3_findMatch_40 ?_
        refine gtX1_3 hE kX_1 wf_RX3_40 dX3_findMatch_43 ?_
        show G false iX3_findMatch M (none, z0) 46 [some (.ref 42), some (.ref 9), some (.int (jshl (1 : Int32) (rI z2 5 5))), some (.int v_3), some (.int r14), none, none, none] [.ref 4] z4
        refine g_iload_n hE dX3_findMatch_46 rfl ?_
        obtain ⟨h15, hf⟩ := ck_of hf
        refine g_iald hE kX_4 h15 dX3_findMatch_47 ?_
        refine g_i2l hE dX3_findMatch_48 ?_
        refine g_bipush hE (32) dX3_findMatch_49 (by decide) ?_
        refine g_lshl hE dX3_findMatch_51 ?_
        refine g_lstore [some _, some _, some _, some _, some _, some _, none, none] hE dX3_findMatch_52 (by decide) rfl ?_
        refine g_iconst hE (0) dX3_findMatch_54 (by decide) ?_
        refine g_istore [some _, some _, some _, some _, some _, some _, none, some _] hE dX3_findMatch_55 (by decide) rfl ?_
        obtain ⟨z23, hx21, hf⟩ := b1_of hf
        have hJ22 : G false iX3_findMatch M (none, z0) 92 [some (.ref 42), some (.ref 9), some (.int (jshl (1 : Int32) (rI z2 5 5))), some (.int v_3), some (.int r14), some (.long (lshlj ((rI z4 4 (ix v_3)).toInt64) (32 : Int32))), none, none] [] z23 := by
          refine g_wk [true, true, true, true, false, false, false, false] rfl ?_
          refine g_iinc [some _, some _, some _, some _, none, none, none, none] hE (v_3 + (-1 : Int32)) dX3_findMatch_92 rfl rfl (by decide) rfl ?_
          refine g_goto 28 hE dX3_findMatch_95 (by decide) ?_
          exact (ih6 _ _ hf)
        clear hf
        have hl18 : ∀ (n20 : Nat) (taken_16 : Int32) (z17 : Sg), f_X3_findMatch_lp2 (jshl (1 : Int32) (rI z2 5 5)) v_3 r14 (lshlj ((rI z4 4 (ix v_3)).toInt64) (32 : Int32)) n20 taken_16 z17 = some z23 → G false iX3_findMatch M (none, z0) 57 [some (.ref 42), some (.ref 9), some (.int (jshl (1 : Int32) (rI z2 5 5))), some (.int v_3), some (.int r14), some (.long (lshlj ((rI z4 4 (ix v_3)).toInt64) (32 : Int32))), none, some (.int taken_16)] [] z17 := by
          intro n20
          induction n20 with
          | zero => intro taken_16 z17 hf; cases hf
          | succ n20 ih19 =>
            intro taken_16 z17 hf
            rw [f_X3_findMatch_lp2] at hf
            refine g_iload hE dX3_findMatch_57 rfl ?_
            refine g_iload_n hE dX3_findMatch_59 rfl ?_
            refine g_icmp_ge 92 hE dX3_findMatch_60 (by decide) (fun h24 => ?_) (fun h24 => ?_)
            · replace hf := it_f hf (cv_ngt h24)
              obtain rfl := so1 hf
              exact g_wk [true, true, true, true, true, true, false, false] rfl hJ22
            · replace hf := it_t hf (cv_gt h24)
              refine g_aload_n hE dX3_findMatch_63 rfl ?_
              refine gtX3_0 hE kX_42 wf_RX3_11 dX3_findMatch_64 ?_
              show G false iX3_findMatch M (none, z0) 67 [some (.ref 42), some (.ref 9), some (.int (jshl (1 : Int32) (rI z2 5 5))), some (.int v_3), some (.int r14), some (.long (lshlj ((rI z4 4 (ix v_3)).toInt64) (32 : Int32))), none, some (.int taken_16)] [.ref 43] z17
              refine g_iload hE dX3_findMatch_67 rfl ?_
              refine g_aload_n hE dX3_findMatch_69 rfl ?_
              refine g_iload_n hE dX3_findMatch_70 rfl ?_
              refine g_iload hE dX3_findMatch_71 rfl ?_
              refine g_iload hE dX3_findMatch_73 rfl ?_
              refine g_iconst hE (-1) dX3_findMatch_75 (by decide) ?_
              refine g_ixor hE dX3_findMatch_76 ?_
              refine g_iand hE dX3_findMatch_77 ?_
              refine g_iload hE dX3_findMatch_78 rfl ?_
              refine g_lload hE dX3_findMatch_80 rfl ?_
              obtain ⟨r26, hc25, hf⟩ := b1_of hf
              refine g_callV4r hE mv_X3_withOneMore kX_42 rfl wm_RX3_44 (by decide) (Nat.le_of_ble_eq_true rfl) dX3_findMatch_82 (c_X3_withOneMore hc25) ?_
              obtain ⟨h27, hf⟩ := ck_of hf
              refine g_last hE kX_43 h27 dX3_findMatch_85 ?_
              refine g_iinc [some _, some _, some _, some _, some _, some _, none, some _] hE (taken_16 + (1 : Int32)) dX3_findMatch_86 rfl rfl (by decide) rfl ?_
              refine g_goto 57 hE dX3_findMatch_89 (by decide) ?_
              exact (ih19 _ _ hf)
        exact hl18 _ _ _ hx21
  exact hl5 _ _ _ hx8
set_option maxHeartbeats 4000000 in
set_option maxRecDepth 100000 in
theorem c_J6_numberOfTrailingZeros_0f7a4 {l : Launch} {w : WC} {i_ : Int32} {z : Sg} {r0 : Int32} (hf : f_J6_numberOfTrailingZeros_0f7a4 i_ = some r0) : CT false l iJ6_numberOfTrailingZeros_0f7a4 w [.int i_] z (some (.int r0)) z := by
  refine ct_of 1 (lv := [some (.int i_), none]) (by decide +kernel) rfl (Nat.le_of_ble_eq_true rfl) rfl (fun M hl hw hE => ?_)
  subst hl
  subst hw
  unfold f_J6_numberOfTrailingZeros_0f7a4 at hf
  refine g_iload_n hE dJ6_numberOfTrailingZeros_0f7a4_0 rfl ?_
  refine g_iconst hE (-1) dJ6_numberOfTrailingZeros_0f7a4_1 (by decide) ?_
  refine g_ixor hE dJ6_numberOfTrailingZeros_0f7a4_2 ?_
  refine g_iload_n hE dJ6_numberOfTrailingZeros_0f7a4_3 rfl ?_
  refine g_iconst hE (1) dJ6_numberOfTrailingZeros_0f7a4_4 (by decide) ?_
  refine g_isub hE dJ6_numberOfTrailingZeros_0f7a4_5 ?_
  refine g_iand hE dJ6_numberOfTrailingZeros_0f7a4_6 ?_
  refine g_istore_n [some _, none] hE dJ6_numberOfTrailingZeros_0f7a4_7 (by decide) rfl ?_
  refine g_iload_n hE dJ6_numberOfTrailingZeros_0f7a4_8 rfl ?_
  refine g_if_gt 17 hE dJ6_numberOfTrailingZeros_0f7a4_9 (by decide) (fun h1 => ?_) (fun h1 => ?_)
  · replace hf := it_f hf (cv_nge h1)
    refine g_iconst hE (1) dJ6_numberOfTrailingZeros_0f7a4_17 (by decide) ?_
    refine g_istore_n [some _, some _] hE dJ6_numberOfTrailingZeros_0f7a4_18 (by decide) rfl ?_
    obtain ⟨i_4, n_5, hx2, hf⟩ := b2_of hf
    have hJ3 : G false iJ6_numberOfTrailingZeros_0f7a4 M (some (.int r0), z) 34 [some (.int i_4), some (.int n_5)] [] z := by
      obtain ⟨i_8, n_9, hx6, hf⟩ := b2_of hf
      have hJ7 : G false iJ6_numberOfTrailingZeros_0f7a4 M (some (.int r0), z) 49 [some (.int i_8), some (.int n_9)] [] z := by
        obtain ⟨i_12, n_13, hx10, hf⟩ := b2_of hf
        have hJ11 : G false iJ6_numberOfTrailingZeros_0f7a4 M (some (.int r0), z) 62 [some (.int i_12), some (.int n_13)] [] z := by
          obtain ⟨i_16, n_17, hx14, hf⟩ := b2_of hf
          have hJ15 : G false iJ6_numberOfTrailingZeros_0f7a4 M (some (.int r0), z) 74 [some (.int i_16), some (.int n_17)] [] z := by
            refine g_iload_n hE dJ6_numberOfTrailingZeros_0f7a4_74 rfl ?_
            refine g_iload_n hE dJ6_numberOfTrailingZeros_0f7a4_75 rfl ?_
            refine g_iconst hE (1) dJ6_numberOfTrailingZeros_0f7a4_76 (by decide) ?_
            refine g_iushr hE dJ6_numberOfTrailingZeros_0f7a4_77 ?_
            refine g_iadd hE dJ6_numberOfTrailingZeros_0f7a4_78 ?_
            obtain rfl := so1 hf
            exact g_iret hE rfl dJ6_numberOfTrailingZeros_0f7a4_79
          replace hf := hx14
          clear hx14
          refine g_iload_n hE dJ6_numberOfTrailingZeros_0f7a4_62 rfl ?_
          refine g_iconst hE (4) dJ6_numberOfTrailingZeros_0f7a4_63 (by decide) ?_
          refine g_icmp_le 74 hE dJ6_numberOfTrailingZeros_0f7a4_64 (by decide) (fun h18 => ?_) (fun h18 => ?_)
          · replace hf := it_f hf (cv_ngt h18)
            obtain ⟨rfl, rfl⟩ := so2 hf
            exact hJ15
          · replace hf := it_t hf (cv_gt h18)
            refine g_iinc [some _, some _] hE (n_13 + (2 : Int32)) dJ6_numberOfTrailingZeros_0f7a4_67 rfl rfl (by decide) rfl ?_
            refine g_iload_n hE dJ6_numberOfTrailingZeros_0f7a4_70 rfl ?_
            refine g_iconst hE (2) dJ6_numberOfTrailingZeros_0f7a4_71 (by decide) ?_
            refine g_iushr hE dJ6_numberOfTrailingZeros_0f7a4_72 ?_
            refine g_istore_n [some _, some _] hE dJ6_numberOfTrailingZeros_0f7a4_73 (by decide) rfl ?_
            obtain ⟨rfl, rfl⟩ := so2 hf
            exact hJ15
        replace hf := hx10
        clear hx10
        refine g_iload_n hE dJ6_numberOfTrailingZeros_0f7a4_49 rfl ?_
        refine g_bipush hE (16) dJ6_numberOfTrailingZeros_0f7a4_50 (by decide) ?_
        refine g_icmp_le 62 hE dJ6_numberOfTrailingZeros_0f7a4_52 (by decide) (fun h19 => ?_) (fun h19 => ?_)
        · replace hf := it_f hf (cv_ngt h19)
          obtain ⟨rfl, rfl⟩ := so2 hf
          exact hJ11
        · replace hf := it_t hf (cv_gt h19)
          refine g_iinc [some _, some _] hE (n_9 + (4 : Int32)) dJ6_numberOfTrailingZeros_0f7a4_55 rfl rfl (by decide) rfl ?_
          refine g_iload_n hE dJ6_numberOfTrailingZeros_0f7a4_58 rfl ?_
          refine g_iconst hE (4) dJ6_numberOfTrailingZeros_0f7a4_59 (by decide) ?_
          refine g_iushr hE dJ6_numberOfTrailingZeros_0f7a4_60 ?_
          refine g_istore_n [some _, some _] hE dJ6_numberOfTrailingZeros_0f7a4_61 (by decide) rfl ?_
          obtain ⟨rfl, rfl⟩ := so2 hf
          exact hJ11
      replace hf := hx6
      clear hx6
      refine g_iload_n hE dJ6_numberOfTrailingZeros_0f7a4_34 rfl ?_
      refine g_sipush hE (256) dJ6_numberOfTrailingZeros_0f7a4_35 (by decide) ?_
      refine g_icmp_le 49 hE dJ6_numberOfTrailingZeros_0f7a4_38 (by decide) (fun h20 => ?_) (fun h20 => ?_)
      · replace hf := it_f hf (cv_ngt h20)
        obtain ⟨rfl, rfl⟩ := so2 hf
        exact hJ7
      · replace hf := it_t hf (cv_gt h20)
        refine g_iinc [some _, some _] hE (n_5 + (8 : Int32)) dJ6_numberOfTrailingZeros_0f7a4_41 rfl rfl (by decide) rfl ?_
        refine g_iload_n hE dJ6_numberOfTrailingZeros_0f7a4_44 rfl ?_
        refine g_bipush hE (8) dJ6_numberOfTrailingZeros_0f7a4_45 (by decide) ?_
        refine g_iushr hE dJ6_numberOfTrailingZeros_0f7a4_47 ?_
        refine g_istore_n [some _, some _] hE dJ6_numberOfTrailingZeros_0f7a4_48 (by decide) rfl ?_
        obtain ⟨rfl, rfl⟩ := so2 hf
        exact hJ7
    replace hf := hx2
    clear hx2
    refine g_iload_n hE dJ6_numberOfTrailingZeros_0f7a4_19 rfl ?_
    refine g_ldcw hE wk_RJ6_264 dJ6_numberOfTrailingZeros_0f7a4_20 ?_
    refine g_icmp_le 34 hE dJ6_numberOfTrailingZeros_0f7a4_23 (by decide) (fun h21 => ?_) (fun h21 => ?_)
    · replace hf := it_f hf (cv_ngt h21)
      obtain ⟨rfl, rfl⟩ := so2 hf
      exact hJ3
    · replace hf := it_t hf (cv_gt h21)
      refine g_iinc [some _, some _] hE ((1 : Int32) + (16 : Int32)) dJ6_numberOfTrailingZeros_0f7a4_26 rfl rfl (by decide) rfl ?_
      refine g_iload_n hE dJ6_numberOfTrailingZeros_0f7a4_29 rfl ?_
      refine g_bipush hE (16) dJ6_numberOfTrailingZeros_0f7a4_30 (by decide) ?_
      refine g_iushr hE dJ6_numberOfTrailingZeros_0f7a4_32 ?_
      refine g_istore_n [some _, some _] hE dJ6_numberOfTrailingZeros_0f7a4_33 (by decide) rfl ?_
      obtain ⟨rfl, rfl⟩ := so2 hf
      exact hJ3
  · replace hf := it_t hf (cv_ge h1)
    refine g_iload_n hE dJ6_numberOfTrailingZeros_0f7a4_12 rfl ?_
    refine g_bipush hE (32) dJ6_numberOfTrailingZeros_0f7a4_13 (by decide) ?_
    refine g_iand hE dJ6_numberOfTrailingZeros_0f7a4_15 ?_
    obtain rfl := so1 hf
    exact g_iret hE rfl dJ6_numberOfTrailingZeros_0f7a4_16
set_option maxHeartbeats 4000000 in
set_option maxRecDepth 100000 in
theorem c_X3_firstPaired {l : Launch} {w : WC} {virtues_ : Nat} {left_ : Int32} {z : Sg} {r0 : Int64} (hk_virtues : kd false virtues_ = KX1) (hf : f_X3_firstPaired virtues_ left_ z = some r0) : CT false l iX3_firstPaired w [.ref 42, .ref virtues_, .int left_] z (some (.long r0)) z := by
  refine ct_of 8 (lv := [some (.ref 42), some (.ref virtues_), some (.int left_), none, none, none, none, none, none, none, none]) (by decide +kernel) rfl (Nat.le_of_ble_eq_true rfl) rfl (fun M hl hw hE => ?_)
  subst hl
  subst hw
  unfold f_X3_firstPaired at hf
  refine g_iload_n hE dX3_firstPaired_0 rfl ?_
  obtain ⟨r2, hc1, hf⟩ := b1_of hf
  refine g_callS1r hE ms_J6_numberOfTrailingZeros_0f7a4 wm_RX3_71 (by decide) (Nat.le_of_ble_eq_true rfl) dX3_firstPaired_1 (c_J6_numberOfTrailingZeros_0f7a4 hc1) ?_
  refine g_istore_n [some _, some _, some _, some _, none, none, none, none, none, none, none] hE dX3_firstPaired_4 (by decide) rfl ?_
  refine g_iload_n hE dX3_firstPaired_5 rfl ?_
  refine g_iload_n hE dX3_firstPaired_6 rfl ?_
  refine g_iconst hE (1) dX3_firstPaired_7 (by decide) ?_
  refine g_isub hE dX3_firstPaired_8 ?_
  refine g_iand hE dX3_firstPaired_9 ?_
  refine g_istore [some _, some _, some _, some _, some _, none, none, none, none, none, none] hE dX3_firstPaired_10 (by decide) rfl ?_
  refine g_aload_n hE dX3_firstPaired_12 rfl ?_
  refine gtX3_0 hE kX_42 wf_RX3_11 dX3_firstPaired_13 ?_
  show G false iX3_firstPaired M (some (.long r0), z) 16 [some (.ref 42), some (.ref virtues_), some (.int left_), some (.int r2), some (.int (left_ &&& (left_ - (1 : Int32)))), none, none, none, none, none, none] [.ref 43] z
  refine g_iload hE dX3_firstPaired_16 rfl ?_
  obtain ⟨h3, hf⟩ := ck_of hf
  refine g_lald hE kX_43 h3 dX3_firstPaired_18 ?_
  refine g_lstore [some _, some _, some _, some _, some _, some _, none, none, none, none, none] hE dX3_firstPaired_19 (by decide) rfl ?_
  refine g_iload_n hE dX3_firstPaired_21 rfl ?_
  refine g_iconst hE (1) dX3_firstPaired_22 (by decide) ?_
  refine g_iadd hE dX3_firstPaired_23 ?_
  refine g_istore [some _, some _, some _, some _, some _, some _, none, some _, none, none, none] hE dX3_firstPaired_24 (by decide) rfl ?_
  obtain ⟨most_11, hx9, hf⟩ := b1_of hf
  have hJ10 : G false iX3_firstPaired M (some (.long r0), z) 120 [some (.ref 42), some (.ref virtues_), some (.int left_), some (.int r2), some (.int (left_ &&& (left_ - (1 : Int32)))), some (.long most_11), none, none, none, none, none] [] z := by
    refine g_lload hE dX3_firstPaired_120 rfl ?_
    obtain rfl := so1 hf
    exact g_lret hE rfl dX3_firstPaired_122
  clear hf
  have hl6 : ∀ (n8 : Nat) (most_4 : Int64) (v_5 : Int32), f_X3_firstPaired_lp1 virtues_ r2 (left_ &&& (left_ - (1 : Int32))) z n8 most_4 v_5 = some most_11 → G false iX3_firstPaired M (some (.long r0), z) 26 [some (.ref 42), some (.ref virtues_), some (.int left_), some (.int r2), some (.int (left_ &&& (left_ - (1 : Int32)))), some (.long most_4), none, some (.int v_5), none, none, none] [] z := by
    intro n8
    induction n8 with
    | zero => intro most_4 v_5 hf; cases hf
    | succ n8 ih7 =>
      intro most_4 v_5 hf
      rw [f_X3_firstPaired_lp1] at hf
      refine g_iload hE dX3_firstPaired_26 rfl ?_
      refine g_aload_n hE dX3_firstPaired_28 rfl ?_
      refine gtX1_5 hE hk_virtues wf_RX3_27 dX3_firstPaired_29 ?_
      refine g_icmp_ge 120 hE dX3_firstPaired_32 (by decide) (fun h12 => ?_) (fun h12 => ?_)
      · replace hf := it_f hf (cv_ngt h12)
        obtain rfl := so1 hf
        exact g_wk [true, true, true, true, true, true, false, false, false, false, false] rfl hJ10
      · replace hf := it_t hf (cv_gt h12)
        refine g_aload_n hE dX3_firstPaired_35 rfl ?_
        refine gtX1_2 hE hk_virtues wf_RX3_76 dX3_firstPaired_36 ?_
        refine g_iload_n hE dX3_firstPaired_39 rfl ?_
        obtain ⟨h13, hf⟩ := ck_of hf
        refine g_iald hE (rlX1_2 hk_virtues) h13 dX3_firstPaired_40 ?_
        refine g_aload_n hE dX3_firstPaired_41 rfl ?_
        refine gtX1_2 hE hk_virtues wf_RX3_76 dX3_firstPaired_42 ?_
        refine g_iload hE dX3_firstPaired_45 rfl ?_
        obtain ⟨h14, hf⟩ := ck_of hf
        refine g_iald hE (rlX1_2 hk_virtues) h14 dX3_firstPaired_47 ?_
        refine g_ixor hE dX3_firstPaired_48 ?_
        refine g_istore [some _, some _, some _, some _, some _, some _, none, some _, some _, none, none] hE dX3_firstPaired_49 (by decide) rfl ?_
        obtain ⟨most_17, hx15, hf⟩ := b1_of hf
        have hJ16 : G false iX3_firstPaired M (some (.long r0), z) 114 [some (.ref 42), some (.ref virtues_), some (.int left_), some (.int r2), some (.int (left_ &&& (left_ - (1 : Int32)))), some (.long most_17), none, some (.int v_5), some (.int ((rI z (virtues_ + 2) (ix r2)) ^^^ (rI z (virtues_ + 2) (ix v_5)))), none, none] [] z := by
          refine g_wk [true, true, true, true, true, true, false, true, false, false, false] rfl ?_
          refine g_iinc [some _, some _, some _, some _, some _, some _, none, some _, none, none, none] hE (v_5 + (1 : Int32)) dX3_firstPaired_114 rfl rfl (by decide) rfl ?_
          refine g_goto 26 hE dX3_firstPaired_117 (by decide) ?_
          exact (ih7 _ _ hf)
        replace hf := hx15
        clear hx15
        obtain ⟨q18, hx19, hf⟩ := b1_of hf
        have hT20 : q18 = true → G false iX3_firstPaired M (some (.long r0), z) 71 [some (.ref 42), some (.ref virtues_), some (.int left_), some (.int r2), some (.int (left_ &&& (left_ - (1 : Int32)))), some (.long most_4), none, some (.int v_5), some (.int ((rI z (virtues_ + 2) (ix r2)) ^^^ (rI z (virtues_ + 2) (ix v_5)))), none, none] [] z := by
          intro hq22
          replace hf := it_t hf hq22
          refine g_aload_n hE dX3_firstPaired_71 rfl ?_
          refine gtX3_0 hE kX_42 wf_RX3_11 dX3_firstPaired_72 ?_
          show G false iX3_firstPaired M (some (.long r0), z) 75 [some (.ref 42), some (.ref virtues_), some (.int left_), some (.int r2), some (.int (left_ &&& (left_ - (1 : Int32)))), some (.long most_4), none, some (.int v_5), some (.int ((rI z (virtues_ + 2) (ix r2)) ^^^ (rI z (virtues_ + 2) (ix v_5)))), none, none] [.ref 43] z
          refine g_iload hE dX3_firstPaired_75 rfl ?_
          refine g_iconst hE (1) dX3_firstPaired_77 (by decide) ?_
          refine g_iload hE dX3_firstPaired_78 rfl ?_
          refine g_ishl hE dX3_firstPaired_80 ?_
          refine g_iconst hE (-1) dX3_firstPaired_81 (by decide) ?_
          refine g_ixor hE dX3_firstPaired_82 ?_
          refine g_iand hE dX3_firstPaired_83 ?_
          obtain ⟨h23, hf⟩ := ck_of hf
          refine g_lald hE kX_43 h23 dX3_firstPaired_84 ?_
          refine g_ldc2 hE wk_RX3_52 dX3_firstPaired_85 ?_
          refine g_ladd hE dX3_firstPaired_88 ?_
          refine g_iload_n hE dX3_firstPaired_89 rfl ?_
          refine g_iload hE dX3_firstPaired_90 rfl ?_
          obtain ⟨r25, hc24, hf⟩ := b1_of hf
          refine g_callS2r hE ms_X3_digit wm_RX3_54 (by decide) (Nat.le_of_ble_eq_true rfl) dX3_firstPaired_92 (c_X3_digit hc24) ?_
          refine g_ladd hE dX3_firstPaired_95 ?_
          refine g_iload hE dX3_firstPaired_96 rfl ?_
          refine g_iload_n hE dX3_firstPaired_98 rfl ?_
          obtain ⟨r27, hc26, hf⟩ := b1_of hf
          refine g_callS2r hE ms_X3_digit wm_RX3_54 (by decide) (Nat.le_of_ble_eq_true rfl) dX3_firstPaired_99 (c_X3_digit hc26) ?_
          refine g_ladd hE dX3_firstPaired_102 ?_
          refine g_lstore [some _, some _, some _, some _, some _, some _, none, some _, some _, some _, none] hE dX3_firstPaired_103 (by decide) rfl ?_
          refine g_lload hE dX3_firstPaired_105 rfl ?_
          refine g_lload hE dX3_firstPaired_107 rfl ?_
          refine g_mmaxL hE wm_RX3_58 (by decide) (Nat.le_of_ble_eq_true rfl) dX3_firstPaired_109 ?_
          refine g_lstore [some _, some _, some _, some _, some _, some _, none, some _, some _, some _, none] hE dX3_firstPaired_112 (by decide) rfl ?_
          refine g_wk [true, true, true, true, true, true, false, true, true, false, false] rfl ?_
          obtain rfl := so1 hf
          exact hJ16
        have hF21 : q18 = false → G false iX3_firstPaired M (some (.long r0), z) 114 [some (.ref 42), some (.ref virtues_), some (.int left_), some (.int r2), some (.int (left_ &&& (left_ - (1 : Int32)))), some (.long most_4), none, some (.int v_5), some (.int ((rI z (virtues_ + 2) (ix r2)) ^^^ (rI z (virtues_ + 2) (ix v_5)))), none, none] [] z := by
          intro hq22
          replace hf := it_f hf (by rw [hq22]; decide)
          obtain rfl := so1 hf
          exact hJ16
        replace hf := hx19
        clear hx19
        refine g_iload hE dX3_firstPaired_51 rfl ?_
        refine g_iload hE dX3_firstPaired_53 rfl ?_
        refine g_ishr hE dX3_firstPaired_55 ?_
        refine g_iconst hE (1) dX3_firstPaired_56 (by decide) ?_
        refine g_iand hE dX3_firstPaired_57 ?_
        refine g_iconst hE (1) dX3_firstPaired_58 (by decide) ?_
        refine g_icmp_ne 114 hE dX3_firstPaired_59 (by decide) (fun h28 => ?_) (fun h28 => ?_)
        · replace hf := it_f hf h28
          obtain rfl := so1 hf
          exact hF21 rfl
        · replace hf := it_t hf h28
          refine g_iload hE dX3_firstPaired_62 rfl ?_
          obtain ⟨r30, hc29, hf⟩ := b1_of hf
          refine g_callS1r hE ms_J6_bitCount_0f7a4 wm_RX3_79 (by decide) (Nat.le_of_ble_eq_true rfl) dX3_firstPaired_64 (c_J6_bitCount_0f7a4 hc29) ?_
          refine g_iconst hE (1) dX3_firstPaired_67 (by decide) ?_
          refine g_icmp_ne 114 hE dX3_firstPaired_68 (by decide) (fun h31 => ?_) (fun h31 => ?_)
          · replace hf := it_f hf h31
            obtain rfl := so1 hf
            exact hF21 rfl
          · replace hf := it_t hf h31
            obtain rfl := so1 hf
            exact hT20 rfl
  exact hl6 _ _ _ hx9
set_option maxHeartbeats 4000000 in
set_option maxRecDepth 100000 in
theorem c_X3_findPairs {l : Launch} {w : WC} {virtues_ : Nat} {z : Sg} {z0 : Sg} (hk_virtues : kd false virtues_ = KX1) (hf : f_X3_findPairs virtues_ z = some z0) : CT false l iX3_findPairs w [.ref 42, .ref virtues_] z none z0 := by
  refine ct_of 2 (lv := [some (.ref 42), some (.ref virtues_), none, none]) (by decide +kernel) rfl (Nat.le_of_ble_eq_true rfl) rfl (fun M hl hw hE => ?_)
  subst hl
  subst hw
  unfold f_X3_findPairs at hf
  refine g_iconst hE (1) dX3_findPairs_0 (by decide) ?_
  refine g_aload_n hE dX3_findPairs_1 rfl ?_
  refine gtX1_5 hE hk_virtues wf_RX3_27 dX3_findPairs_2 ?_
  refine g_ishl hE dX3_findPairs_5 ?_
  refine g_istore_n [some _, some _, some _, none] hE dX3_findPairs_6 (by decide) rfl ?_
  refine g_aload_n hE dX3_findPairs_7 rfl ?_
  refine gtX3_0 hE kX_42 wf_RX3_11 dX3_findPairs_8 ?_
  show G false iX3_findPairs M (none, z0) 11 [some (.ref 42), some (.ref virtues_), some (.int (jshl (1 : Int32) (rI z virtues_ 5))), none] [.ref 43] z
  refine g_iconst hE (0) dX3_findPairs_11 (by decide) ?_
  refine g_lconst hE 0 dX3_findPairs_12 rfl ?_
  obtain ⟨h1, hf⟩ := ck_of hf
  refine g_last hE kX_43 h1 dX3_findPairs_13 ?_
  refine g_iconst hE (1) dX3_findPairs_14 (by decide) ?_
  refine g_istore_n [some _, some _, some _, some _] hE dX3_findPairs_15 (by decide) rfl ?_
  obtain ⟨z9, hx7, hf⟩ := b1_of hf
  have hJ8 : G false iX3_findPairs M (none, z0) 39 [some (.ref 42), some (.ref virtues_), some (.int (jshl (1 : Int32) (rI z virtues_ 5))), none] [] z9 := by
    refine g_aload_n hE dX3_findPairs_39 rfl ?_
    refine g_aload_n hE dX3_findPairs_40 rfl ?_
    refine gtX3_0 hE kX_42 wf_RX3_11 dX3_findPairs_41 ?_
    show G false iX3_findPairs M (none, z0) 44 [some (.ref 42), some (.ref virtues_), some (.int (jshl (1 : Int32) (rI z virtues_ 5))), none] [.ref 43, .ref 42] z9
    refine g_iload_n hE dX3_findPairs_44 rfl ?_
    refine g_iconst hE (1) dX3_findPairs_45 (by decide) ?_
    refine g_isub hE dX3_findPairs_46 ?_
    obtain ⟨h10, hf⟩ := ck_of hf
    refine g_lald hE kX_43 h10 dX3_findPairs_47 ?_
    refine ptX3_2 hE kX_42 wf_RX3_68 dX3_findPairs_48 ?_
    obtain rfl := so1 hf
    exact g_ret hE rfl dX3_findPairs_51
  clear hf
  have hl4 : ∀ (n6 : Nat) (left_2 : Int32) (z3 : Sg), f_X3_findPairs_lp1 virtues_ (jshl (1 : Int32) (rI z virtues_ 5)) n6 left_2 z3 = some z9 → G false iX3_findPairs M (none, z0) 16 [some (.ref 42), some (.ref virtues_), some (.int (jshl (1 : Int32) (rI z virtues_ 5))), some (.int left_2)] [] z3 := by
    intro n6
    induction n6 with
    | zero => intro left_2 z3 hf; cases hf
    | succ n6 ih5 =>
      intro left_2 z3 hf
      rw [f_X3_findPairs_lp1] at hf
      refine g_iload_n hE dX3_findPairs_16 rfl ?_
      refine g_iload_n hE dX3_findPairs_17 rfl ?_
      refine g_icmp_ge 39 hE dX3_findPairs_18 (by decide) (fun h11 => ?_) (fun h11 => ?_)
      · replace hf := it_f hf (cv_ngt h11)
        obtain rfl := so1 hf
        exact g_wk [true, true, true, false] rfl hJ8
      · replace hf := it_t hf (cv_gt h11)
        refine g_aload_n hE dX3_findPairs_21 rfl ?_
        refine gtX3_0 hE kX_42 wf_RX3_11 dX3_findPairs_22 ?_
        show G false iX3_findPairs M (none, z0) 25 [some (.ref 42), some (.ref virtues_), some (.int (jshl (1 : Int32) (rI z virtues_ 5))), some (.int left_2)] [.ref 43] z3
        refine g_iload_n hE dX3_findPairs_25 rfl ?_
        refine g_aload_n hE dX3_findPairs_26 rfl ?_
        refine g_aload_n hE dX3_findPairs_27 rfl ?_
        refine g_iload_n hE dX3_findPairs_28 rfl ?_
        obtain ⟨r13, hc12, hf⟩ := b1_of hf
        refine g_callV2r hE mv_X3_firstPaired kX_42 rfl wm_RX3_64 (by decide) (Nat.le_of_ble_eq_true rfl) dX3_findPairs_29 (c_X3_firstPaired hk_virtues hc12) ?_
        obtain ⟨h14, hf⟩ := ck_of hf
        refine g_last hE kX_43 h14 dX3_findPairs_32 ?_
        refine g_iinc [some _, some _, some _, some _] hE (left_2 + (1 : Int32)) dX3_findPairs_33 rfl rfl (by decide) rfl ?_
        refine g_goto 16 hE dX3_findPairs_36 (by decide) ?_
        exact (ih5 _ _ hf)
  exact hl4 _ _ _ hx7
set_option maxHeartbeats 4000000 in
set_option maxRecDepth 100000 in
theorem c_X7_bestRows {l : Launch} {w : WC} {z : Sg} {r0 : Nat} {z0 : Sg} (hf : f_X7_bestRows z = some (r0, z0)) : CT false l iX7_bestRows w [.ref 0] z (some (.ref r0)) z0 := by
  refine ct_of 0 (lv := [some (.ref 0)]) (by decide +kernel) rfl (Nat.le_of_ble_eq_true rfl) rfl (fun M hl hw hE => ?_)
  subst hl
  subst hw
  unfold f_X7_bestRows at hf
  obtain ⟨z3, hx1, hf⟩ := b1_of hf
  have hJ2 : G false iX7_bestRows M (some (.ref r0), z0) 34 [some (.ref 0)] [] z3 := by
    refine g_aload_n hE dX7_bestRows_34 rfl ?_
    refine gtX7_8 hE kX_0 wf_RX7_62 dX7_bestRows_35 ?_
    obtain ⟨rfl, rfl⟩ := so2 hf
    exact g_aret hE rfl dX7_bestRows_38
  replace hf := hx1
  clear hx1
  refine g_aload_n hE dX7_bestRows_0 rfl ?_
  refine gtX7_11 hE kX_0 wf_RX7_377 dX7_bestRows_1 ?_
  refine g_if_ne 34 hE dX7_bestRows_4 (by decide) (fun h4 => ?_) (fun h4 => ?_)
  · replace hf := it_t hf h4
    obtain rfl := so1 hf
    exact hJ2
  · replace hf := it_f hf (fun q => q h4)
    refine g_aload_n hE dX7_bestRows_7 rfl ?_
    refine gtX7_8 hE kX_0 wf_RX7_62 dX7_bestRows_8 ?_
    refine g_aload_n hE dX7_bestRows_11 rfl ?_
    refine gtX7_2 hE kX_0 wf_RX7_26 dX7_bestRows_12 ?_
    obtain ⟨z6, hc5, hf⟩ := b1_of hf
    refine g_callV1v hE mv_X3_findMatch kX_42 rfl wm_RX7_380 (by decide) (Nat.le_of_ble_eq_true rfl) dX7_bestRows_15 (c_X3_findMatch hc5) ?_
    refine g_aload_n hE dX7_bestRows_18 rfl ?_
    refine gtX7_8 hE kX_0 wf_RX7_62 dX7_bestRows_19 ?_
    refine g_aload_n hE dX7_bestRows_22 rfl ?_
    refine gtX7_0 hE kX_0 wf_RX7_12 dX7_bestRows_23 ?_
    obtain ⟨z8, hc7, hf⟩ := b1_of hf
    refine g_callV1v hE mv_X3_findPairs kX_42 rfl wm_RX7_383 (by decide) (Nat.le_of_ble_eq_true rfl) dX7_bestRows_26 (c_X3_findPairs kX_1 hc7) ?_
    refine g_aload_n hE dX7_bestRows_29 rfl ?_
    refine g_iconst hE (1) dX7_bestRows_30 (by decide) ?_
    refine ptX7_11 hE kX_0 wf_RX7_377 rfl rfl dX7_bestRows_31 ?_
    obtain rfl := so1 hf
    exact hJ2
set_option maxHeartbeats 4000000 in
set_option maxRecDepth 100000 in
theorem c_X3_countOf {l : Launch} {w : WC} {row_ : Int64} {z : Sg} {r0 : Int32} (hf : f_X3_countOf row_ = some r0) : CT false l iX3_countOf w [.long row_] z (some (.int r0)) z := by
  refine ct_of 0 (lv := [some (.long row_), none]) (by decide +kernel) rfl (Nat.le_of_ble_eq_true rfl) rfl (fun M hl hw hE => ?_)
  subst hl
  subst hw
  unfold f_X3_countOf at hf
  refine g_lload_n hE dX3_countOf_0 rfl ?_
  refine g_bipush hE (40) dX3_countOf_1 (by decide) ?_
  refine g_lshr hE dX3_countOf_3 ?_
  refine g_l2i hE dX3_countOf_4 ?_
  obtain rfl := so1 hf
  exact g_iret hE rfl dX3_countOf_5
set_option maxHeartbeats 4000000 in
set_option maxRecDepth 100000 in
theorem c_X3_otherOf {l : Launch} {w : WC} {row_ : Int64} {virtue_ : Int32} {z : Sg} {r0 : Int32} (hf : f_X3_otherOf row_ virtue_ = some r0) : CT false l iX3_otherOf w [.long row_, .int virtue_] z (some (.int r0)) z := by
  refine ct_of 1 (lv := [some (.long row_), none, some (.int virtue_), none]) (by decide +kernel) rfl (Nat.le_of_ble_eq_true rfl) rfl (fun M hl hw hE => ?_)
  subst hl
  subst hw
  unfold f_X3_otherOf at hf
  refine g_lload_n hE dX3_otherOf_0 rfl ?_
  refine g_iconst hE (4) dX3_otherOf_1 (by decide) ?_
  refine g_bipush hE (7) dX3_otherOf_2 (by decide) ?_
  refine g_iload_n hE dX3_otherOf_4 rfl ?_
  refine g_isub hE dX3_otherOf_5 ?_
  refine g_imul hE dX3_otherOf_6 ?_
  refine g_lshr hE dX3_otherOf_7 ?_
  refine g_l2i hE dX3_otherOf_8 ?_
  refine g_bipush hE (15) dX3_otherOf_9 (by decide) ?_
  refine g_iand hE dX3_otherOf_11 ?_
  refine g_istore_n [some _, none, some _, some _] hE dX3_otherOf_12 (by decide) rfl ?_
  obtain ⟨x1, hx2, hf⟩ := b1_of hf
  have hJ3 : G false iX3_otherOf M (some (.int r0), z) 25 [some (.long row_), none, some (.int virtue_), some (.int (((lshrj row_ ((4 : Int32) * ((7 : Int32) - virtue_))).toInt32) &&& (15 : Int32)))] [.int x1] z := by
    obtain rfl := so1 hf
    exact g_iret hE rfl dX3_otherOf_25
  replace hf := hx2
  clear hx2
  refine g_iload_n hE dX3_otherOf_13 rfl ?_
  refine g_if_ne 21 hE dX3_otherOf_14 (by decide) (fun h4 => ?_) (fun h4 => ?_)
  · replace hf := it_f hf h4
    refine g_bipush hE (8) dX3_otherOf_21 (by decide) ?_
    refine g_iload_n hE dX3_otherOf_23 rfl ?_
    refine g_isub hE dX3_otherOf_24 ?_
    obtain rfl := so1 hf
    exact hJ3
  · replace hf := it_t hf h4
    refine g_iconst hE (-1) dX3_otherOf_17 (by decide) ?_
    refine g_goto 25 hE dX3_otherOf_18 (by decide) ?_
    obtain rfl := so1 hf
    exact hJ3
set_option maxHeartbeats 4000000 in
set_option maxRecDepth 100000 in
theorem c_X3_worthOf {l : Launch} {w : WC} {row_ : Int64} {z : Sg} {r0 : Int32} (hf : f_X3_worthOf row_ = some r0) : CT false l iX3_worthOf w [.long row_] z (some (.int r0)) z := by
  refine ct_of 0 (lv := [some (.long row_), none]) (by decide +kernel) rfl (Nat.le_of_ble_eq_true rfl) rfl (fun M hl hw hE => ?_)
  subst hl
  subst hw
  unfold f_X3_worthOf at hf
  refine g_lload_n hE dX3_worthOf_0 rfl ?_
  refine g_bipush hE (32) dX3_worthOf_1 (by decide) ?_
  refine g_lshr hE dX3_worthOf_3 ?_
  refine g_l2i hE dX3_worthOf_4 ?_
  refine g_sipush hE (255) dX3_worthOf_5 (by decide) ?_
  refine g_iand hE dX3_worthOf_8 ?_
  obtain rfl := so1 hf
  exact g_iret hE rfl dX3_worthOf_9
set_option maxHeartbeats 4000000 in
set_option maxRecDepth 100000 in
theorem c_X7_match {l : Launch} {w : WC} {i_ : Int32} {z : Sg} {r0 : Int32} {z0 : Sg} (hf : f_X7_match i_ z = some (r0, z0)) : CT false l iX7_match w [.ref 0, .int i_] z (some (.int r0)) z0 := by
  refine ct_of 2 (lv := [some (.ref 0), some (.int i_), none, none]) (by decide +kernel) rfl (Nat.le_of_ble_eq_true rfl) rfl (fun M hl hw hE => ?_)
  subst hl
  subst hw
  unfold f_X7_match at hf
  obtain ⟨q1, hx2, hf⟩ := b1_of hf
  have hT3 : q1 = true → G false iX7_match M (some (.int r0), z0) 12 [some (.ref 0), some (.int i_), none, none] [] z := by
    intro hq5
    replace hf := it_t hf hq5
    refine g_bipush hE (-2) dX7_match_12 (by decide) ?_
    obtain ⟨rfl, rfl⟩ := so2 hf
    exact g_iret hE rfl dX7_match_14
  have hF4 : q1 = false → G false iX7_match M (some (.int r0), z0) 15 [some (.ref 0), some (.int i_), none, none] [] z := by
    intro hq5
    replace hf := it_f hf (by rw [hq5]; decide)
    refine g_aload_n hE dX7_match_15 rfl ?_
    obtain ⟨r8, z7, hc6, hf⟩ := b2_of hf
    refine g_callV0r hE mv_X7_bestRows kX_0 rfl wm_RX7_189 (by decide) (Nat.le_of_ble_eq_true rfl) dX7_match_16 (c_X7_bestRows hc6) ?_
    obtain ⟨hk9, hf⟩ := ck_of hf
    refine gtX3_1 hE hk9 wf_RX7_193 dX7_match_19 ?_
    refine g_lstore_n [some _, some _, some _, none] hE dX7_match_22 (by decide) rfl ?_
    refine g_iload_n hE dX7_match_23 rfl ?_
    refine g_bipush hE (-2) dX7_match_24 (by decide) ?_
    refine g_icmp_ne 34 hE dX7_match_26 (by decide) (fun h10 => ?_) (fun h10 => ?_)
    · replace hf := it_f hf h10
      obtain ⟨x11, hx12, hf⟩ := b1_of hf
      have hJ13 : G false iX7_match M (some (.int r0), z0) 51 [some (.ref 0), some (.int i_), some (.long (rJ z7 r8 1)), none] [.int x11] z7 := by
        obtain ⟨rfl, rfl⟩ := so2 hf
        exact g_iret hE rfl dX7_match_51
      replace hf := hx12
      clear hx12
      refine g_iload_n hE dX7_match_34 rfl ?_
      refine g_iconst hE (-1) dX7_match_35 (by decide) ?_
      refine g_icmp_ne 46 hE dX7_match_36 (by decide) (fun h14 => ?_) (fun h14 => ?_)
      · replace hf := it_f hf h14
        refine g_lload_n hE dX7_match_46 rfl ?_
        refine g_iload_n hE dX7_match_47 rfl ?_
        obtain ⟨r16, hc15, hf⟩ := b1_of hf
        refine g_callS2r hE ms_X3_otherOf wm_RX7_203 (by decide) (Nat.le_of_ble_eq_true rfl) dX7_match_48 (c_X3_otherOf hc15) ?_
        obtain rfl := so1 hf
        exact hJ13
      · replace hf := it_t hf h14
        refine g_lload_n hE dX7_match_39 rfl ?_
        obtain ⟨r18, hc17, hf⟩ := b1_of hf
        refine g_callS1r hE ms_X3_worthOf wm_RX7_200 (by decide) (Nat.le_of_ble_eq_true rfl) dX7_match_40 (c_X3_worthOf hc17) ?_
        refine g_goto 51 hE dX7_match_43 (by decide) ?_
        obtain rfl := so1 hf
        exact hJ13
    · replace hf := it_t hf h10
      refine g_lload_n hE dX7_match_29 rfl ?_
      obtain ⟨r20, hc19, hf⟩ := b1_of hf
      refine g_callS1r hE ms_X3_countOf wm_RX7_196 (by decide) (Nat.le_of_ble_eq_true rfl) dX7_match_30 (c_X3_countOf hc19) ?_
      obtain ⟨rfl, rfl⟩ := so2 hf
      exact g_iret hE rfl dX7_match_33
  replace hf := hx2
  clear hx2
  refine g_iload_n hE dX7_match_0 rfl ?_
  refine g_bipush hE (-2) dX7_match_1 (by decide) ?_
  refine g_icmp_lt 12 hE dX7_match_3 (by decide) (fun h21 => ?_) (fun h21 => ?_)
  · replace hf := it_t hf h21
    obtain rfl := so1 hf
    exact hT3 rfl
  · replace hf := it_f hf h21
    refine g_iload_n hE dX7_match_6 rfl ?_
    refine g_bipush hE (8) dX7_match_7 (by decide) ?_
    refine g_icmp_lt 15 hE dX7_match_9 (by decide) (fun h22 => ?_) (fun h22 => ?_)
    · replace hf := it_f hf (cv_nge h22)
      obtain rfl := so1 hf
      exact hF4 rfl
    · replace hf := it_t hf (cv_ge h22)
      obtain rfl := so1 hf
      exact hT3 rfl
set_option maxHeartbeats 4000000 in
set_option maxRecDepth 100000 in
theorem c_X2_highOf {l : Launch} {w : WC} {some_ : Int32} {sort_ : Int32} {z : Sg} {r0 : Int32} (hf : f_X2_highOf some_ sort_ z = some r0) : CT false l iX2_highOf w [.ref 9, .int some_, .int sort_] z (some (.int r0)) z := by
  refine ct_of 2 (lv := [some (.ref 9), some (.int some_), some (.int sort_), none, none]) (by decide +kernel) rfl (Nat.le_of_ble_eq_true rfl) rfl (fun M hl hw hE => ?_)
  subst hl
  subst hw
  unfold f_X2_highOf at hf
  refine g_iconst hE (0) dX2_highOf_0 (by decide) ?_
  refine g_istore_n [some _, some _, some _, some _, none] hE dX2_highOf_1 (by decide) rfl ?_
  refine g_iconst hE (0) dX2_highOf_2 (by decide) ?_
  refine g_istore [some _, some _, some _, some _, some _] hE dX2_highOf_3 (by decide) rfl ?_
  obtain ⟨number_8, hx6, hf⟩ := b1_of hf
  have hJ7 : G false iX2_highOf M (some (.int r0), z) 45 [some (.ref 9), some (.int some_), some (.int sort_), some (.int number_8), none] [] z := by
    refine g_iload_n hE dX2_highOf_45 rfl ?_
    obtain rfl := so1 hf
    exact g_iret hE rfl dX2_highOf_46
  clear hf
  have hl3 : ∀ (n5 : Nat) (number_1 : Int32) (v_2 : Int32), f_X2_highOf_lp1 some_ sort_ z n5 number_1 v_2 = some number_8 → G false iX2_highOf M (some (.int r0), z) 5 [some (.ref 9), some (.int some_), some (.int sort_), some (.int number_1), some (.int v_2)] [] z := by
    intro n5
    induction n5 with
    | zero => intro number_1 v_2 hf; cases hf
    | succ n5 ih4 =>
      intro number_1 v_2 hf
      rw [f_X2_highOf_lp1] at hf
      refine g_iload hE dX2_highOf_5 rfl ?_
      refine g_aload_n hE dX2_highOf_7 rfl ?_
      refine gtX2_0 hE kX_9 wf_RX2_18 dX2_highOf_8 ?_
      refine gtX1_5 hE kX_1 wf_RX2_34 dX2_highOf_11 ?_
      refine g_icmp_ge 45 hE dX2_highOf_14 (by decide) (fun h9 => ?_) (fun h9 => ?_)
      · replace hf := it_f hf (cv_ngt h9)
        obtain rfl := so1 hf
        exact g_wk [true, true, true, true, false] rfl hJ7
      · replace hf := it_t hf (cv_gt h9)
        refine g_iload_n hE dX2_highOf_17 rfl ?_
        refine g_iload_n hE dX2_highOf_18 rfl ?_
        refine g_iload hE dX2_highOf_19 rfl ?_
        refine g_ishr hE dX2_highOf_21 ?_
        refine g_aload_n hE dX2_highOf_22 rfl ?_
        refine gtX2_0 hE kX_9 wf_RX2_18 dX2_highOf_23 ?_
        refine gtX1_2 hE kX_1 wf_RX2_25 dX2_highOf_26 ?_
        show G false iX2_highOf M (some (.int r0), z) 29 [some (.ref 9), some (.int some_), some (.int sort_), some (.int number_1), some (.int v_2)] [.ref 3, .int (jshr some_ v_2), .int number_1] z
        refine g_iload hE dX2_highOf_29 rfl ?_
        obtain ⟨h10, hf⟩ := ck_of hf
        refine g_iald hE kX_3 h10 dX2_highOf_31 ?_
        refine g_iload_n hE dX2_highOf_32 rfl ?_
        refine g_ishr hE dX2_highOf_33 ?_
        refine g_iand hE dX2_highOf_34 ?_
        refine g_iconst hE (1) dX2_highOf_35 (by decide) ?_
        refine g_iand hE dX2_highOf_36 ?_
        refine g_iadd hE dX2_highOf_37 ?_
        refine g_istore_n [some _, some _, some _, some _, some _] hE dX2_highOf_38 (by decide) rfl ?_
        refine g_iinc [some _, some _, some _, some _, some _] hE (v_2 + (1 : Int32)) dX2_highOf_39 rfl rfl (by decide) rfl ?_
        refine g_goto 5 hE dX2_highOf_42 (by decide) ?_
        exact (ih4 _ _ hf)
  exact hl3 _ _ _ hx6
set_option maxHeartbeats 4000000 in
set_option maxRecDepth 100000 in
theorem c_X7_ask {l : Launch} {w : WC} {claimant_ : Int32} {z : Sg} {r0 : Int32} (hf : f_X7_ask claimant_ z = some r0) : CT false l iX7_ask w [.ref 0, .int claimant_] z (some (.int r0)) z := by
  refine ct_of 6 (lv := [some (.ref 0), some (.int claimant_), none, none, none, none, none, none]) (by decide +kernel) rfl (Nat.le_of_ble_eq_true rfl) rfl (fun M hl hw hE => ?_)
  subst hl
  subst hw
  unfold f_X7_ask at hf
  refine g_aload_n hE dX7_ask_0 rfl ?_
  refine g_iload_n hE dX7_ask_1 rfl ?_
  obtain ⟨r2, hc1, hf⟩ := b1_of hf
  refine g_callV1r hE mv_X7_noClaimant kX_0 rfl wm_RX7_113 (by decide) (Nat.le_of_ble_eq_true rfl) dX7_ask_2 (c_X7_noClaimant hc1) ?_
  refine g_if_eq 11 hE dX7_ask_5 (by decide) (fun h3 => ?_) (fun h3 => ?_)
  · replace hf := it_f hf (fun q => q h3)
    refine g_aload_n hE dX7_ask_11 rfl ?_
    refine gtX7_2 hE kX_0 wf_RX7_26 dX7_ask_12 ?_
    refine g_iload_n hE dX7_ask_15 rfl ?_
    obtain ⟨r5, hc4, hf⟩ := b1_of hf
    refine g_callV1r hE mv_X2_virtuesFittedBy kX_9 rfl wm_RX7_183 (by decide) (Nat.le_of_ble_eq_true rfl) dX7_ask_16 (c_X2_virtuesFittedBy hc4) ?_
    refine g_istore_n [some _, some _, some _, none, none, none, none, none] hE dX7_ask_19 (by decide) rfl ?_
    refine g_iconst hE (-1) dX7_ask_20 (by decide) ?_
    refine g_istore_n [some _, some _, some _, some _, none, none, none, none] hE dX7_ask_21 (by decide) rfl ?_
    refine g_bipush hE (9) dX7_ask_22 (by decide) ?_
    refine g_istore [some _, some _, some _, some _, some _, none, none, none] hE dX7_ask_24 (by decide) rfl ?_
    refine g_iconst hE (0) dX7_ask_26 (by decide) ?_
    refine g_istore [some _, some _, some _, some _, some _, some _, none, none] hE dX7_ask_27 (by decide) rfl ?_
    obtain ⟨best_14, least_15, hx12, hf⟩ := b2_of hf
    have hJ13 : G false iX7_ask M (some (.int r0), z) 102 [some (.ref 0), some (.int claimant_), some (.int r5), some (.int best_14), some (.int least_15), none, none, none] [] z := by
      refine g_iload_n hE dX7_ask_102 rfl ?_
      obtain rfl := so1 hf
      exact g_iret hE rfl dX7_ask_103
    clear hf
    have hl9 : ∀ (n11 : Nat) (best_6 : Int32) (least_7 : Int32) (sort_8 : Int32), f_X7_ask_lp1 claimant_ r5 z n11 best_6 least_7 sort_8 = some (best_14, least_15) → G false iX7_ask M (some (.int r0), z) 29 [some (.ref 0), some (.int claimant_), some (.int r5), some (.int best_6), some (.int least_7), some (.int sort_8), none, none] [] z := by
      intro n11
      induction n11 with
      | zero => intro best_6 least_7 sort_8 hf; cases hf
      | succ n11 ih10 =>
        intro best_6 least_7 sort_8 hf
        rw [f_X7_ask_lp1] at hf
        refine g_iload hE dX7_ask_29 rfl ?_
        refine g_iconst hE (4) dX7_ask_31 (by decide) ?_
        refine g_icmp_ge 102 hE dX7_ask_32 (by decide) (fun h16 => ?_) (fun h16 => ?_)
        · replace hf := it_f hf (cv_ngt h16)
          obtain ⟨rfl, rfl⟩ := so2 hf
          exact g_wk [true, true, true, true, true, false, false, false] rfl hJ13
        · replace hf := it_t hf (cv_gt h16)
          refine g_aload_n hE dX7_ask_35 rfl ?_
          refine gtX7_1 hE kX_0 wf_RX7_18 dX7_ask_36 ?_
          refine gtX1_1 hE kX_5 wf_RX7_116 dX7_ask_39 ?_
          show G false iX7_ask M (some (.int r0), z) 42 [some (.ref 0), some (.int claimant_), some (.int r5), some (.int best_6), some (.int least_7), some (.int sort_8), none, none] [.ref 6] z
          refine g_iload_n hE dX7_ask_42 rfl ?_
          obtain ⟨h17, hf⟩ := ck_of hf
          refine g_iald hE kX_6 h17 dX7_ask_43 ?_
          refine g_iload hE dX7_ask_44 rfl ?_
          refine g_ishr hE dX7_ask_46 ?_
          refine g_iconst hE (1) dX7_ask_47 (by decide) ?_
          refine g_iand hE dX7_ask_48 ?_
          refine g_iconst hE (1) dX7_ask_49 (by decide) ?_
          refine g_icmp_ne 56 hE dX7_ask_50 (by decide) (fun h18 => ?_) (fun h18 => ?_)
          · replace hf := it_f hf h18
            refine g_aload_n hE dX7_ask_56 rfl ?_
            refine gtX7_2 hE kX_0 wf_RX7_26 dX7_ask_57 ?_
            refine g_iload_n hE dX7_ask_60 rfl ?_
            refine g_iload hE dX7_ask_61 rfl ?_
            obtain ⟨r20, hc19, hf⟩ := b1_of hf
            refine g_callV2r hE mv_X2_highOf kX_9 rfl wm_RX7_207 (by decide) (Nat.le_of_ble_eq_true rfl) dX7_ask_63 (c_X2_highOf hc19) ?_
            refine g_istore [some _, some _, some _, some _, some _, some _, some _, none] hE dX7_ask_66 (by decide) rfl ?_
            refine g_iload hE dX7_ask_68 rfl ?_
            refine g_iload_n hE dX7_ask_70 rfl ?_
            obtain ⟨r22, hc21, hf⟩ := b1_of hf
            refine g_callS1r hE ms_J6_bitCount_0f7a4 wm_RX7_210 (by decide) (Nat.le_of_ble_eq_true rfl) dX7_ask_71 (c_J6_bitCount_0f7a4 hc21) ?_
            refine g_iload hE dX7_ask_74 rfl ?_
            refine g_isub hE dX7_ask_76 ?_
            refine g_mmax hE wm_RX7_215 (by decide) (Nat.le_of_ble_eq_true rfl) dX7_ask_77 ?_
            refine g_istore [some _, some _, some _, some _, some _, some _, some _, some _] hE dX7_ask_80 (by decide) rfl ?_
            obtain ⟨best_25, least_26, hx23, hf⟩ := b2_of hf
            have hJ24 : G false iX7_ask M (some (.int r0), z) 96 [some (.ref 0), some (.int claimant_), some (.int r5), some (.int best_25), some (.int least_26), some (.int sort_8), some (.int r20), some (.int (if r20 < (r22 - r20) then (r22 - r20) else r20))] [] z := by
              refine g_wk [true, true, true, true, true, true, false, false] rfl ?_
              refine g_iinc [some _, some _, some _, some _, some _, some _, none, none] hE (sort_8 + (1 : Int32)) dX7_ask_96 rfl rfl (by decide) rfl ?_
              refine g_goto 29 hE dX7_ask_99 (by decide) ?_
              exact (ih10 _ _ _ hf)
            replace hf := hx23
            clear hx23
            refine g_iload hE dX7_ask_82 rfl ?_
            refine g_iload hE dX7_ask_84 rfl ?_
            refine g_icmp_ge 96 hE dX7_ask_86 (by decide) (fun h27 => ?_) (fun h27 => ?_)
            · replace hf := it_f hf (cv_ngt h27)
              obtain ⟨rfl, rfl⟩ := so2 hf
              exact hJ24
            · replace hf := it_t hf (cv_gt h27)
              refine g_iload hE dX7_ask_89 rfl ?_
              refine g_istore [some _, some _, some _, some _, some _, some _, some _, some _] hE dX7_ask_91 (by decide) rfl ?_
              refine g_iload hE dX7_ask_93 rfl ?_
              refine g_istore_n [some _, some _, some _, some _, some _, some _, some _, some _] hE dX7_ask_95 (by decide) rfl ?_
              obtain ⟨rfl, rfl⟩ := so2 hf
              exact hJ24
          · replace hf := it_t hf h18
            refine g_goto 96 hE dX7_ask_53 (by decide) ?_
            refine g_iinc [some _, some _, some _, some _, some _, some _, none, none] hE (sort_8 + (1 : Int32)) dX7_ask_96 rfl rfl (by decide) rfl ?_
            refine g_goto 29 hE dX7_ask_99 (by decide) ?_
            exact (ih10 _ _ _ hf)
    exact hl9 _ _ _ _ hx12
  · replace hf := it_t hf h3
    refine g_bipush hE (-2) dX7_ask_8 (by decide) ?_
    obtain rfl := so1 hf
    exact g_iret hE rfl dX7_ask_10
set_option maxHeartbeats 4000000 in
set_option maxRecDepth 100000 in
theorem c_X2_alikeIn {l : Launch} {w : WC} {virtue_ : Int32} {sorts_ : Int32} {z : Sg} {r0 : Int32} (hf : f_X2_alikeIn virtue_ sorts_ z = some r0) : CT false l iX2_alikeIn w [.ref 9, .int virtue_, .int sorts_] z (some (.int r0)) z := by
  refine ct_of 2 (lv := [some (.ref 9), some (.int virtue_), some (.int sorts_), none, none]) (by decide +kernel) rfl (Nat.le_of_ble_eq_true rfl) rfl (fun M hl hw hE => ?_)
  subst hl
  subst hw
  unfold f_X2_alikeIn at hf
  refine g_iconst hE (0) dX2_alikeIn_0 (by decide) ?_
  refine g_istore_n [some _, some _, some _, some _, none] hE dX2_alikeIn_1 (by decide) rfl ?_
  refine g_iconst hE (0) dX2_alikeIn_2 (by decide) ?_
  refine g_istore [some _, some _, some _, some _, some _] hE dX2_alikeIn_3 (by decide) rfl ?_
  obtain ⟨bits_8, hx6, hf⟩ := b1_of hf
  have hJ7 : G false iX2_alikeIn M (some (.int r0), z) 55 [some (.ref 9), some (.int virtue_), some (.int sorts_), some (.int bits_8), none] [] z := by
    refine g_iload_n hE dX2_alikeIn_55 rfl ?_
    obtain rfl := so1 hf
    exact g_iret hE rfl dX2_alikeIn_56
  clear hf
  have hl3 : ∀ (n5 : Nat) (bits_1 : Int32) (v_2 : Int32), f_X2_alikeIn_lp1 virtue_ sorts_ z n5 bits_1 v_2 = some bits_8 → G false iX2_alikeIn M (some (.int r0), z) 5 [some (.ref 9), some (.int virtue_), some (.int sorts_), some (.int bits_1), some (.int v_2)] [] z := by
    intro n5
    induction n5 with
    | zero => intro bits_1 v_2 hf; cases hf
    | succ n5 ih4 =>
      intro bits_1 v_2 hf
      rw [f_X2_alikeIn_lp1] at hf
      refine g_iload hE dX2_alikeIn_5 rfl ?_
      refine g_aload_n hE dX2_alikeIn_7 rfl ?_
      refine gtX2_0 hE kX_9 wf_RX2_18 dX2_alikeIn_8 ?_
      refine gtX1_5 hE kX_1 wf_RX2_34 dX2_alikeIn_11 ?_
      refine g_icmp_ge 55 hE dX2_alikeIn_14 (by decide) (fun h9 => ?_) (fun h9 => ?_)
      · replace hf := it_f hf (cv_ngt h9)
        obtain rfl := so1 hf
        exact g_wk [true, true, true, true, false] rfl hJ7
      · replace hf := it_t hf (cv_gt h9)
        obtain ⟨bits_12, hx10, hf⟩ := b1_of hf
        have hJ11 : G false iX2_alikeIn M (some (.int r0), z) 49 [some (.ref 9), some (.int virtue_), some (.int sorts_), some (.int bits_12), some (.int v_2)] [] z := by
          refine g_iinc [some _, some _, some _, some _, some _] hE (v_2 + (1 : Int32)) dX2_alikeIn_49 rfl rfl (by decide) rfl ?_
          refine g_goto 5 hE dX2_alikeIn_52 (by decide) ?_
          exact (ih4 _ _ hf)
        replace hf := hx10
        clear hx10
        refine g_aload_n hE dX2_alikeIn_17 rfl ?_
        refine gtX2_0 hE kX_9 wf_RX2_18 dX2_alikeIn_18 ?_
        refine gtX1_2 hE kX_1 wf_RX2_25 dX2_alikeIn_21 ?_
        show G false iX2_alikeIn M (some (.int r0), z) 24 [some (.ref 9), some (.int virtue_), some (.int sorts_), some (.int bits_1), some (.int v_2)] [.ref 3] z
        refine g_iload hE dX2_alikeIn_24 rfl ?_
        obtain ⟨h13, hf⟩ := ck_of hf
        refine g_iald hE kX_3 h13 dX2_alikeIn_26 ?_
        refine g_aload_n hE dX2_alikeIn_27 rfl ?_
        refine gtX2_0 hE kX_9 wf_RX2_18 dX2_alikeIn_28 ?_
        refine gtX1_2 hE kX_1 wf_RX2_25 dX2_alikeIn_31 ?_
        show G false iX2_alikeIn M (some (.int r0), z) 34 [some (.ref 9), some (.int virtue_), some (.int sorts_), some (.int bits_1), some (.int v_2)] [.ref 3, .int (rI z 3 (ix v_2))] z
        refine g_iload_n hE dX2_alikeIn_34 rfl ?_
        obtain ⟨h14, hf⟩ := ck_of hf
        refine g_iald hE kX_3 h14 dX2_alikeIn_35 ?_
        refine g_ixor hE dX2_alikeIn_36 ?_
        refine g_iload_n hE dX2_alikeIn_37 rfl ?_
        refine g_iand hE dX2_alikeIn_38 ?_
        refine g_if_ne 49 hE dX2_alikeIn_39 (by decide) (fun h15 => ?_) (fun h15 => ?_)
        · replace hf := it_f hf h15
          obtain rfl := so1 hf
          exact hJ11
        · replace hf := it_t hf h15
          refine g_iload_n hE dX2_alikeIn_42 rfl ?_
          refine g_iconst hE (1) dX2_alikeIn_43 (by decide) ?_
          refine g_iload hE dX2_alikeIn_44 rfl ?_
          refine g_ishl hE dX2_alikeIn_46 ?_
          refine g_ior hE dX2_alikeIn_47 ?_
          refine g_istore_n [some _, some _, some _, some _, some _] hE dX2_alikeIn_48 (by decide) rfl ?_
          obtain rfl := so1 hf
          exact hJ11
  exact hl3 _ _ _ hx6
set_option maxHeartbeats 4000000 in
set_option maxRecDepth 100000 in
theorem c_X2_onlyOneSuch {l : Launch} {w : WC} {virtue_ : Int32} {sorts_ : Int32} {z : Sg} {r0 : Int32} (hf : f_X2_onlyOneSuch virtue_ sorts_ z = some r0) : CT false l iX2_onlyOneSuch w [.ref 9, .int virtue_, .int sorts_] z (some (.int r0)) z := by
  refine ct_of 0 (lv := [some (.ref 9), some (.int virtue_), some (.int sorts_)]) (by decide +kernel) rfl (Nat.le_of_ble_eq_true rfl) rfl (fun M hl hw hE => ?_)
  subst hl
  subst hw
  unfold f_X2_onlyOneSuch at hf
  obtain ⟨x1, hx2, hf⟩ := b1_of hf
  have hJ3 : G false iX2_onlyOneSuch M (some (.int r0), z) 17 [some (.ref 9), some (.int virtue_), some (.int sorts_)] [.int x1] z := by
    obtain ⟨h4, hf⟩ := ck_of hf
    obtain rfl := so1 hf
    exact g_zret hE rfl (bz_nar h4) dX2_onlyOneSuch_17
  replace hf := hx2
  clear hx2
  refine g_aload_n hE dX2_onlyOneSuch_0 rfl ?_
  refine g_iload_n hE dX2_onlyOneSuch_1 rfl ?_
  refine g_iload_n hE dX2_onlyOneSuch_2 rfl ?_
  obtain ⟨r6, hc5, hf⟩ := b1_of hf
  refine g_callV2r hE mv_X2_alikeIn kX_9 rfl wm_RX2_53 (by decide) (Nat.le_of_ble_eq_true rfl) dX2_onlyOneSuch_3 (c_X2_alikeIn hc5) ?_
  refine g_iconst hE (1) dX2_onlyOneSuch_6 (by decide) ?_
  refine g_iload_n hE dX2_onlyOneSuch_7 rfl ?_
  refine g_ishl hE dX2_onlyOneSuch_8 ?_
  refine g_icmp_ne 16 hE dX2_onlyOneSuch_9 (by decide) (fun h7 => ?_) (fun h7 => ?_)
  · replace hf := it_f hf h7
    refine g_iconst hE (0) dX2_onlyOneSuch_16 (by decide) ?_
    obtain rfl := so1 hf
    exact hJ3
  · replace hf := it_t hf h7
    refine g_iconst hE (1) dX2_onlyOneSuch_12 (by decide) ?_
    refine g_goto 17 hE dX2_onlyOneSuch_13 (by decide) ?_
    obtain rfl := so1 hf
    exact hJ3
set_option maxHeartbeats 4000000 in
set_option maxRecDepth 100000 in
theorem c_X7_lie {l : Launch} {w : WC} {virtue_ : Int32} {z : Sg} {r0 : Int32} (hf : f_X7_lie virtue_ z = some r0) : CT false l iX7_lie w [.ref 0, .int virtue_] z (some (.int r0)) z := by
  refine ct_of 4 (lv := [some (.ref 0), some (.int virtue_), none, none, none, none]) (by decide +kernel) rfl (Nat.le_of_ble_eq_true rfl) rfl (fun M hl hw hE => ?_)
  subst hl
  subst hw
  unfold f_X7_lie at hf
  refine g_aload_n hE dX7_lie_0 rfl ?_
  refine g_iload_n hE dX7_lie_1 rfl ?_
  obtain ⟨r2, hc1, hf⟩ := b1_of hf
  refine g_callV1r hE mv_X7_noVirtue kX_0 rfl wm_RX7_102 (by decide) (Nat.le_of_ble_eq_true rfl) dX7_lie_2 (c_X7_noVirtue hc1) ?_
  refine g_if_eq 11 hE dX7_lie_5 (by decide) (fun h3 => ?_) (fun h3 => ?_)
  · replace hf := it_f hf (fun q => q h3)
    refine g_iconst hE (-1) dX7_lie_11 (by decide) ?_
    refine g_istore_n [some _, some _, some _, none, none, none] hE dX7_lie_12 (by decide) rfl ?_
    refine g_iconst hE (5) dX7_lie_13 (by decide) ?_
    refine g_istore_n [some _, some _, some _, some _, none, none] hE dX7_lie_14 (by decide) rfl ?_
    refine g_iconst hE (0) dX7_lie_15 (by decide) ?_
    refine g_istore [some _, some _, some _, some _, some _, none] hE dX7_lie_16 (by decide) rfl ?_
    obtain ⟨best_12, fewest_13, hx10, hf⟩ := b2_of hf
    have hJ11 : G false iX7_lie M (some (.int r0), z) 75 [some (.ref 0), some (.int virtue_), some (.int best_12), some (.int fewest_13), none, none] [] z := by
      refine g_iload_n hE dX7_lie_75 rfl ?_
      obtain rfl := so1 hf
      exact g_iret hE rfl dX7_lie_76
    clear hf
    have hl7 : ∀ (n9 : Nat) (best_4 : Int32) (fewest_5 : Int32) (sorts_6 : Int32), f_X7_lie_lp1 virtue_ z n9 best_4 fewest_5 sorts_6 = some (best_12, fewest_13) → G false iX7_lie M (some (.int r0), z) 18 [some (.ref 0), some (.int virtue_), some (.int best_4), some (.int fewest_5), some (.int sorts_6), none] [] z := by
      intro n9
      induction n9 with
      | zero => intro best_4 fewest_5 sorts_6 hf; cases hf
      | succ n9 ih8 =>
        intro best_4 fewest_5 sorts_6 hf
        rw [f_X7_lie_lp1] at hf
        refine g_iload hE dX7_lie_18 rfl ?_
        refine g_bipush hE (16) dX7_lie_20 (by decide) ?_
        refine g_icmp_ge 75 hE dX7_lie_22 (by decide) (fun h14 => ?_) (fun h14 => ?_)
        · replace hf := it_f hf (cv_ngt h14)
          obtain ⟨rfl, rfl⟩ := so2 hf
          exact g_wk [true, true, true, true, false, false] rfl hJ11
        · replace hf := it_t hf (cv_gt h14)
          refine g_iload hE dX7_lie_25 rfl ?_
          obtain ⟨r16, hc15, hf⟩ := b1_of hf
          refine g_callS1r hE ms_J6_bitCount_0f7a4 wm_RX7_210 (by decide) (Nat.le_of_ble_eq_true rfl) dX7_lie_27 (c_J6_bitCount_0f7a4 hc15) ?_
          refine g_istore [some _, some _, some _, some _, some _, some _] hE dX7_lie_30 (by decide) rfl ?_
          obtain ⟨best_19, fewest_20, hx17, hf⟩ := b2_of hf
          have hJ18 : G false iX7_lie M (some (.int r0), z) 69 [some (.ref 0), some (.int virtue_), some (.int best_19), some (.int fewest_20), some (.int sorts_6), some (.int r16)] [] z := by
            refine g_wk [true, true, true, true, true, false] rfl ?_
            refine g_iinc [some _, some _, some _, some _, some _, none] hE (sorts_6 + (1 : Int32)) dX7_lie_69 rfl rfl (by decide) rfl ?_
            refine g_goto 18 hE dX7_lie_72 (by decide) ?_
            exact (ih8 _ _ _ hf)
          replace hf := hx17
          clear hx17
          obtain ⟨q21, hx22, hf⟩ := b1_of hf
          have hT23 : q21 = true → G false iX7_lie M (some (.int r0), z) 63 [some (.ref 0), some (.int virtue_), some (.int best_4), some (.int fewest_5), some (.int sorts_6), some (.int r16)] [] z := by
            intro hq25
            replace hf := it_t hf hq25
            refine g_iload hE dX7_lie_63 rfl ?_
            refine g_istore_n [some _, some _, some _, some _, some _, some _] hE dX7_lie_65 (by decide) rfl ?_
            refine g_iload hE dX7_lie_66 rfl ?_
            refine g_istore_n [some _, some _, some _, some _, some _, some _] hE dX7_lie_68 (by decide) rfl ?_
            obtain ⟨rfl, rfl⟩ := so2 hf
            exact hJ18
          have hF24 : q21 = false → G false iX7_lie M (some (.int r0), z) 69 [some (.ref 0), some (.int virtue_), some (.int best_4), some (.int fewest_5), some (.int sorts_6), some (.int r16)] [] z := by
            intro hq25
            replace hf := it_f hf (by rw [hq25]; decide)
            obtain ⟨rfl, rfl⟩ := so2 hf
            exact hJ18
          replace hf := hx22
          clear hx22
          refine g_iload hE dX7_lie_32 rfl ?_
          refine g_aload_n hE dX7_lie_34 rfl ?_
          refine gtX7_2 hE kX_0 wf_RX7_26 dX7_lie_35 ?_
          refine gtX2_2 hE kX_9 wf_RX7_119 dX7_lie_38 ?_
          refine g_icmp_lt 69 hE dX7_lie_41 (by decide) (fun h26 => ?_) (fun h26 => ?_)
          · replace hf := it_f hf (cv_nge h26)
            obtain rfl := so1 hf
            exact hF24 rfl
          · replace hf := it_t hf (cv_ge h26)
            refine g_iload hE dX7_lie_44 rfl ?_
            refine g_iload_n hE dX7_lie_46 rfl ?_
            refine g_icmp_ge 69 hE dX7_lie_47 (by decide) (fun h27 => ?_) (fun h27 => ?_)
            · replace hf := it_f hf (cv_ngt h27)
              obtain rfl := so1 hf
              exact hF24 rfl
            · replace hf := it_t hf (cv_gt h27)
              refine g_aload_n hE dX7_lie_50 rfl ?_
              refine gtX7_2 hE kX_0 wf_RX7_26 dX7_lie_51 ?_
              refine g_iload_n hE dX7_lie_54 rfl ?_
              refine g_iload hE dX7_lie_55 rfl ?_
              obtain ⟨r29, hc28, hf⟩ := b1_of hf
              refine g_callV2r hE mv_X2_onlyOneSuch kX_9 rfl wm_RX7_220 (by decide) (Nat.le_of_ble_eq_true rfl) dX7_lie_57 (c_X2_onlyOneSuch hc28) ?_
              refine g_if_eq 69 hE dX7_lie_60 (by decide) (fun h30 => ?_) (fun h30 => ?_)
              · replace hf := it_f hf (fun q => q h30)
                obtain rfl := so1 hf
                exact hF24 rfl
              · replace hf := it_t hf h30
                obtain rfl := so1 hf
                exact hT23 rfl
    exact hl7 _ _ _ _ hx10
  · replace hf := it_t hf h3
    refine g_bipush hE (-2) dX7_lie_8 (by decide) ?_
    obtain rfl := so1 hf
    exact g_iret hE rfl dX7_lie_10
set_option maxHeartbeats 4000000 in
set_option maxRecDepth 100000 in
theorem c_X7_greatestDivisor {l : Launch} {w : WC} {a_ : Int32} {b_ : Int32} {z : Sg} {r0 : Int32} (hf : f_X7_greatestDivisor a_ b_ = some r0) : CT false l iX7_greatestDivisor w [.int a_, .int b_] z (some (.int r0)) z := by
  refine ct_of 1 (lv := [some (.int a_), some (.int b_), none]) (by decide +kernel) rfl (Nat.le_of_ble_eq_true rfl) rfl (fun M hl hw hE => ?_)
  subst hl
  subst hw
  unfold f_X7_greatestDivisor at hf
  refine g_iload_n hE dX7_greatestDivisor_0 rfl ?_
  refine g_iload_n hE dX7_greatestDivisor_1 rfl ?_
  refine g_mmin hE wm_RX7_237 (by decide) (Nat.le_of_ble_eq_true rfl) dX7_greatestDivisor_2 ?_
  refine g_istore_n [some _, some _, some _] hE dX7_greatestDivisor_5 (by decide) rfl ?_
  have hl2 : ∀ (n4 : Nat) (d_1 : Int32), f_X7_greatestDivisor_lp1 a_ b_ n4 d_1 = some r0 → G false iX7_greatestDivisor M (some (.int r0), z) 6 [some (.int a_), some (.int b_), some (.int d_1)] [] z := by
    intro n4
    induction n4 with
    | zero => intro d_1 hf; cases hf
    | succ n4 ih3 =>
      intro d_1 hf
      rw [f_X7_greatestDivisor_lp1] at hf
      refine g_iload_n hE dX7_greatestDivisor_6 rfl ?_
      refine g_iconst hE (1) dX7_greatestDivisor_7 (by decide) ?_
      refine g_icmp_le 31 hE dX7_greatestDivisor_8 (by decide) (fun h5 => ?_) (fun h5 => ?_)
      · replace hf := it_f hf (cv_ngt h5)
        refine g_wk [true, true, false] rfl ?_
        refine g_iconst hE (1) dX7_greatestDivisor_31 (by decide) ?_
        obtain rfl := so1 hf
        exact g_iret hE rfl dX7_greatestDivisor_32
      · replace hf := it_t hf (cv_gt h5)
        obtain ⟨q6, hx7, hf⟩ := b1_of hf
        have hT8 : q6 = true → G false iX7_greatestDivisor M (some (.int r0), z) 23 [some (.int a_), some (.int b_), some (.int d_1)] [] z := by
          intro hq10
          replace hf := it_t hf hq10
          refine g_iload_n hE dX7_greatestDivisor_23 rfl ?_
          obtain rfl := so1 hf
          exact g_iret hE rfl dX7_greatestDivisor_24
        have hF9 : q6 = false → G false iX7_greatestDivisor M (some (.int r0), z) 25 [some (.int a_), some (.int b_), some (.int d_1)] [] z := by
          intro hq10
          replace hf := it_f hf (by rw [hq10]; decide)
          refine g_iinc [some _, some _, some _] hE (d_1 + (-1 : Int32)) dX7_greatestDivisor_25 rfl rfl (by decide) rfl ?_
          refine g_goto 6 hE dX7_greatestDivisor_28 (by decide) ?_
          exact (ih3 _ hf)
        replace hf := hx7
        clear hx7
        refine g_iload_n hE dX7_greatestDivisor_11 rfl ?_
        refine g_iload_n hE dX7_greatestDivisor_12 rfl ?_
        obtain ⟨h14, hf⟩ := ck_of hf
        refine g_irem hE dX7_greatestDivisor_13 h14 ?_
        refine g_if_ne 25 hE dX7_greatestDivisor_14 (by decide) (fun h11 => ?_) (fun h11 => ?_)
        · replace hf := it_f hf h11
          obtain rfl := so1 hf
          exact hF9 rfl
        · replace hf := it_t hf h11
          refine g_iload_n hE dX7_greatestDivisor_17 rfl ?_
          refine g_iload_n hE dX7_greatestDivisor_18 rfl ?_
          obtain ⟨h13, hf⟩ := ck_of hf
          refine g_irem hE dX7_greatestDivisor_19 h13 ?_
          refine g_if_ne 25 hE dX7_greatestDivisor_20 (by decide) (fun h12 => ?_) (fun h12 => ?_)
          · replace hf := it_f hf h12
            obtain rfl := so1 hf
            exact hF9 rfl
          · replace hf := it_t hf h12
            obtain rfl := so1 hf
            exact hT8 rfl
  exact hl2 _ _ hf
set_option maxHeartbeats 4000000 in
set_option maxRecDepth 100000 in
theorem c_X2_alikeInOpen {l : Launch} {w : WC} {virtue_ : Int32} {secretSorts_ : Int32} {z : Sg} {r0 : Int32} (hf : f_X2_alikeInOpen virtue_ secretSorts_ z = some r0) : CT false l iX2_alikeInOpen w [.ref 9, .int virtue_, .int secretSorts_] z (some (.int r0)) z := by
  refine ct_of 0 (lv := [some (.ref 9), some (.int virtue_), some (.int secretSorts_)]) (by decide +kernel) rfl (Nat.le_of_ble_eq_true rfl) rfl (fun M hl hw hE => ?_)
  subst hl
  subst hw
  unfold f_X2_alikeInOpen at hf
  refine g_aload_n hE dX2_alikeInOpen_0 rfl ?_
  refine g_iload_n hE dX2_alikeInOpen_1 rfl ?_
  refine g_bipush hE (15) dX2_alikeInOpen_2 (by decide) ?_
  refine g_iload_n hE dX2_alikeInOpen_4 rfl ?_
  refine g_iconst hE (-1) dX2_alikeInOpen_5 (by decide) ?_
  refine g_ixor hE dX2_alikeInOpen_6 ?_
  refine g_iand hE dX2_alikeInOpen_7 ?_
  obtain ⟨r2, hc1, hf⟩ := b1_of hf
  refine g_callV2r hE mv_X2_alikeIn kX_9 rfl wm_RX2_53 (by decide) (Nat.le_of_ble_eq_true rfl) dX2_alikeInOpen_8 (c_X2_alikeIn hc1) ?_
  obtain rfl := so1 hf
  exact g_iret hE rfl dX2_alikeInOpen_11
set_option maxHeartbeats 4000000 in
set_option maxRecDepth 100000 in
theorem c_X2_mostOfOneKind {l : Launch} {w : WC} {some_ : Int32} {z : Sg} {r0 : Int32} (hf : f_X2_mostOfOneKind some_ z = some r0) : CT false l iX2_mostOfOneKind w [.ref 9, .int some_] z (some (.int r0)) z := by
  refine ct_of 3 (lv := [some (.ref 9), some (.int some_), none, none, none]) (by decide +kernel) rfl (Nat.le_of_ble_eq_true rfl) rfl (fun M hl hw hE => ?_)
  subst hl
  subst hw
  unfold f_X2_mostOfOneKind at hf
  refine g_iconst hE (0) dX2_mostOfOneKind_0 (by decide) ?_
  refine g_istore_n [some _, some _, some _, none, none] hE dX2_mostOfOneKind_1 (by decide) rfl ?_
  refine g_iconst hE (0) dX2_mostOfOneKind_2 (by decide) ?_
  refine g_istore_n [some _, some _, some _, some _, none] hE dX2_mostOfOneKind_3 (by decide) rfl ?_
  obtain ⟨most_8, hx6, hf⟩ := b1_of hf
  have hJ7 : G false iX2_mostOfOneKind M (some (.int r0), z) 51 [some (.ref 9), some (.int some_), some (.int most_8), none, none] [] z := by
    refine g_iload_n hE dX2_mostOfOneKind_51 rfl ?_
    obtain rfl := so1 hf
    exact g_iret hE rfl dX2_mostOfOneKind_52
  clear hf
  have hl3 : ∀ (n5 : Nat) (most_1 : Int32) (v_2 : Int32), f_X2_mostOfOneKind_lp1 some_ z n5 most_1 v_2 = some most_8 → G false iX2_mostOfOneKind M (some (.int r0), z) 4 [some (.ref 9), some (.int some_), some (.int most_1), some (.int v_2), none] [] z := by
    intro n5
    induction n5 with
    | zero => intro most_1 v_2 hf; cases hf
    | succ n5 ih4 =>
      intro most_1 v_2 hf
      rw [f_X2_mostOfOneKind_lp1] at hf
      refine g_iload_n hE dX2_mostOfOneKind_4 rfl ?_
      refine g_aload_n hE dX2_mostOfOneKind_5 rfl ?_
      refine gtX2_0 hE kX_9 wf_RX2_18 dX2_mostOfOneKind_6 ?_
      refine gtX1_5 hE kX_1 wf_RX2_34 dX2_mostOfOneKind_9 ?_
      refine g_icmp_ge 51 hE dX2_mostOfOneKind_12 (by decide) (fun h9 => ?_) (fun h9 => ?_)
      · replace hf := it_f hf (cv_ngt h9)
        obtain rfl := so1 hf
        exact g_wk [true, true, true, false, false] rfl hJ7
      · replace hf := it_t hf (cv_gt h9)
        obtain ⟨most_12, hx10, hf⟩ := b1_of hf
        have hJ11 : G false iX2_mostOfOneKind M (some (.int r0), z) 45 [some (.ref 9), some (.int some_), some (.int most_12), some (.int v_2), none] [] z := by
          refine g_iinc [some _, some _, some _, some _, none] hE (v_2 + (1 : Int32)) dX2_mostOfOneKind_45 rfl rfl (by decide) rfl ?_
          refine g_goto 4 hE dX2_mostOfOneKind_48 (by decide) ?_
          exact (ih4 _ _ hf)
        replace hf := hx10
        clear hx10
        refine g_iload_n hE dX2_mostOfOneKind_15 rfl ?_
        refine g_iload_n hE dX2_mostOfOneKind_16 rfl ?_
        refine g_ishr hE dX2_mostOfOneKind_17 ?_
        refine g_iconst hE (1) dX2_mostOfOneKind_18 (by decide) ?_
        refine g_iand hE dX2_mostOfOneKind_19 ?_
        refine g_iconst hE (1) dX2_mostOfOneKind_20 (by decide) ?_
        refine g_icmp_ne 45 hE dX2_mostOfOneKind_21 (by decide) (fun h13 => ?_) (fun h13 => ?_)
        · replace hf := it_f hf h13
          obtain rfl := so1 hf
          exact hJ11
        · replace hf := it_t hf h13
          refine g_aload_n hE dX2_mostOfOneKind_24 rfl ?_
          refine g_iload_n hE dX2_mostOfOneKind_25 rfl ?_
          refine g_bipush hE (15) dX2_mostOfOneKind_26 (by decide) ?_
          obtain ⟨r15, hc14, hf⟩ := b1_of hf
          refine g_callV2r hE mv_X2_alikeIn kX_9 rfl wm_RX2_53 (by decide) (Nat.le_of_ble_eq_true rfl) dX2_mostOfOneKind_28 (c_X2_alikeIn hc14) ?_
          refine g_iload_n hE dX2_mostOfOneKind_31 rfl ?_
          refine g_iand hE dX2_mostOfOneKind_32 ?_
          refine g_istore [some _, some _, some _, some _, some _] hE dX2_mostOfOneKind_33 (by decide) rfl ?_
          refine g_iload_n hE dX2_mostOfOneKind_35 rfl ?_
          refine g_iload hE dX2_mostOfOneKind_36 rfl ?_
          obtain ⟨r17, hc16, hf⟩ := b1_of hf
          refine g_callS1r hE ms_J6_bitCount_0f7a4 wm_RX2_45 (by decide) (Nat.le_of_ble_eq_true rfl) dX2_mostOfOneKind_38 (c_J6_bitCount_0f7a4 hc16) ?_
          refine g_mmax hE wm_RX2_57 (by decide) (Nat.le_of_ble_eq_true rfl) dX2_mostOfOneKind_41 ?_
          refine g_istore_n [some _, some _, some _, some _, some _] hE dX2_mostOfOneKind_44 (by decide) rfl ?_
          refine g_wk [true, true, true, true, false] rfl ?_
          obtain rfl := so1 hf
          exact hJ11
  exact hl3 _ _ _ hx6
set_option maxHeartbeats 4000000 in
set_option maxRecDepth 100000 in
theorem c_X7_guess {l : Launch} {w : WC} {virtue_ : Int32} {what_ : Int32} {z : Sg} {r0 : Int64} (hf : f_X7_guess virtue_ what_ z = some r0) : CT false l iX7_guess w [.ref 0, .int virtue_, .int what_] z (some (.long r0)) z := by
  refine ct_of 4 (lv := [some (.ref 0), some (.int virtue_), some (.int what_), none, none, none, none]) (by decide +kernel) rfl (Nat.le_of_ble_eq_true rfl) rfl (fun M hl hw hE => ?_)
  subst hl
  subst hw
  unfold f_X7_guess at hf
  obtain ⟨q1, hx2, hf⟩ := b1_of hf
  have hT3 : q1 = true → G false iX7_guess M (some (.long r0), z) 16 [some (.ref 0), some (.int virtue_), some (.int what_), none, none, none, none] [] z := by
    intro hq5
    replace hf := it_t hf hq5
    refine g_ldc2 hE wk_RX7_223 dX7_guess_16 ?_
    obtain rfl := so1 hf
    exact g_lret hE rfl dX7_guess_19
  have hF4 : q1 = false → G false iX7_guess M (some (.long r0), z) 20 [some (.ref 0), some (.int virtue_), some (.int what_), none, none, none, none] [] z := by
    intro hq5
    replace hf := it_f hf (by rw [hq5]; decide)
    refine g_aload_n hE dX7_guess_20 rfl ?_
    refine gtX7_2 hE kX_0 wf_RX7_26 dX7_guess_21 ?_
    refine g_iload_n hE dX7_guess_24 rfl ?_
    refine g_aload_n hE dX7_guess_25 rfl ?_
    refine gtX7_2 hE kX_0 wf_RX7_26 dX7_guess_26 ?_
    refine gtX2_3 hE kX_9 wf_RX7_122 dX7_guess_29 ?_
    obtain ⟨r7, hc6, hf⟩ := b1_of hf
    refine g_callV2r hE mv_X2_alikeInOpen kX_9 rfl wm_RX7_225 (by decide) (Nat.le_of_ble_eq_true rfl) dX7_guess_32 (c_X2_alikeInOpen hc6) ?_
    refine g_istore_n [some _, some _, some _, some _, none, none, none] hE dX7_guess_35 (by decide) rfl ?_
    refine g_aload_n hE dX7_guess_36 rfl ?_
    refine gtX7_2 hE kX_0 wf_RX7_26 dX7_guess_37 ?_
    refine g_iload_n hE dX7_guess_40 rfl ?_
    obtain ⟨r9, hc8, hf⟩ := b1_of hf
    refine g_callV1r hE mv_X2_mostOfOneKind kX_9 rfl wm_RX7_228 (by decide) (Nat.le_of_ble_eq_true rfl) dX7_guess_41 (c_X2_mostOfOneKind hc8) ?_
    refine g_istore [some _, some _, some _, some _, some _, none, none] hE dX7_guess_44 (by decide) rfl ?_
    refine g_iload_n hE dX7_guess_46 rfl ?_
    obtain ⟨r11, hc10, hf⟩ := b1_of hf
    refine g_callS1r hE ms_J6_bitCount_0f7a4 wm_RX7_210 (by decide) (Nat.le_of_ble_eq_true rfl) dX7_guess_47 (c_J6_bitCount_0f7a4 hc10) ?_
    refine g_istore [some _, some _, some _, some _, some _, some _, none] hE dX7_guess_50 (by decide) rfl ?_
    refine g_iload hE dX7_guess_52 rfl ?_
    refine g_iload hE dX7_guess_54 rfl ?_
    obtain ⟨r13, hc12, hf⟩ := b1_of hf
    refine g_callS2r hE ms_X7_greatestDivisor wm_RX7_231 (by decide) (Nat.le_of_ble_eq_true rfl) dX7_guess_56 (c_X7_greatestDivisor hc12) ?_
    refine g_istore [some _, some _, some _, some _, some _, some _, some _] hE dX7_guess_59 (by decide) rfl ?_
    obtain ⟨x14, hx15, hf⟩ := b1_of hf
    have hJ16 : G false iX7_guess M (some (.long r0), z) 80 [some (.ref 0), some (.int virtue_), some (.int what_), some (.int r7), some (.int r9), some (.int r11), some (.int r13)] [.long x14] z := by
      obtain rfl := so1 hf
      exact g_lret hE rfl dX7_guess_80
    replace hf := hx15
    clear hx15
    refine g_iload_n hE dX7_guess_61 rfl ?_
    refine g_if_ne 74 hE dX7_guess_62 (by decide) (fun h17 => ?_) (fun h17 => ?_)
    · replace hf := it_f hf h17
      refine g_iload hE dX7_guess_74 rfl ?_
      refine g_iload hE dX7_guess_76 rfl ?_
      obtain ⟨h18, hf⟩ := ck_of hf
      refine g_idiv hE dX7_guess_78 h18 ?_
      refine g_i2l hE dX7_guess_79 ?_
      obtain rfl := so1 hf
      exact hJ16
    · replace hf := it_t hf h17
      refine g_iload hE dX7_guess_65 rfl ?_
      refine g_iload hE dX7_guess_67 rfl ?_
      obtain ⟨h19, hf⟩ := ck_of hf
      refine g_idiv hE dX7_guess_69 h19 ?_
      refine g_i2l hE dX7_guess_70 ?_
      refine g_goto 80 hE dX7_guess_71 (by decide) ?_
      obtain rfl := so1 hf
      exact hJ16
  replace hf := hx2
  clear hx2
  refine g_aload_n hE dX7_guess_0 rfl ?_
  refine g_iload_n hE dX7_guess_1 rfl ?_
  obtain ⟨r21, hc20, hf⟩ := b1_of hf
  refine g_callV1r hE mv_X7_noVirtue kX_0 rfl wm_RX7_102 (by decide) (Nat.le_of_ble_eq_true rfl) dX7_guess_2 (c_X7_noVirtue hc20) ?_
  refine g_if_ne 16 hE dX7_guess_5 (by decide) (fun h22 => ?_) (fun h22 => ?_)
  · replace hf := it_t hf h22
    obtain rfl := so1 hf
    exact hT3 rfl
  · replace hf := it_f hf (fun q => q h22)
    refine g_iload_n hE dX7_guess_8 rfl ?_
    refine g_iconst hE (2) dX7_guess_9 (by decide) ?_
    obtain ⟨r24, hc23, hf⟩ := b1_of hf
    refine g_callS2r hE ms_X7_outside wm_RX7_73 (by decide) (Nat.le_of_ble_eq_true rfl) dX7_guess_10 (c_X7_outside hc23) ?_
    refine g_if_eq 20 hE dX7_guess_13 (by decide) (fun h25 => ?_) (fun h25 => ?_)
    · replace hf := it_f hf (fun q => q h25)
      obtain rfl := so1 hf
      exact hF4 rfl
    · replace hf := it_t hf h25
      obtain rfl := so1 hf
      exact hT3 rfl
set_option maxHeartbeats 4000000 in
set_option maxRecDepth 100000 in
theorem c_X7_guarded {l : Launch} {w : WC} {sorts_ : Int32} {sixteenths_ : Int32} {z : Sg} {r0 : Int32} (hf : f_X7_guarded sorts_ sixteenths_ z = some r0) : CT false l iX7_guarded w [.ref 0, .int sorts_, .int sixteenths_] z (some (.int r0)) z := by
  refine ct_of 2 (lv := [some (.ref 0), some (.int sorts_), some (.int sixteenths_), none, none]) (by decide +kernel) rfl (Nat.le_of_ble_eq_true rfl) rfl (fun M hl hw hE => ?_)
  subst hl
  subst hw
  unfold f_X7_guarded at hf
  refine g_iconst hE (0) dX7_guarded_0 (by decide) ?_
  refine g_istore_n [some _, some _, some _, some _, none] hE dX7_guarded_1 (by decide) rfl ?_
  have hl2 : ∀ (n4 : Nat) (v_1 : Int32), f_X7_guarded_lp1 sorts_ sixteenths_ z n4 v_1 = some r0 → G false iX7_guarded M (some (.int r0), z) 2 [some (.ref 0), some (.int sorts_), some (.int sixteenths_), some (.int v_1), none] [] z := by
    intro n4
    induction n4 with
    | zero => intro v_1 hf; cases hf
    | succ n4 ih3 =>
      intro v_1 hf
      rw [f_X7_guarded_lp1] at hf
      refine g_iload_n hE dX7_guarded_2 rfl ?_
      refine g_aload_n hE dX7_guarded_3 rfl ?_
      refine gtX7_0 hE kX_0 wf_RX7_12 dX7_guarded_4 ?_
      refine gtX1_5 hE kX_1 wf_RX7_177 dX7_guarded_7 ?_
      refine g_icmp_ge 54 hE dX7_guarded_10 (by decide) (fun h5 => ?_) (fun h5 => ?_)
      · replace hf := it_f hf (cv_ngt h5)
        refine g_wk [true, true, true, false, false] rfl ?_
        refine g_iconst hE (1) dX7_guarded_54 (by decide) ?_
        obtain ⟨h6, hf⟩ := ck_of hf
        obtain rfl := so1 hf
        exact g_zret hE rfl (bz_nar h6) dX7_guarded_55
      · replace hf := it_t hf (cv_gt h5)
        refine g_aload_n hE dX7_guarded_13 rfl ?_
        refine gtX7_2 hE kX_0 wf_RX7_26 dX7_guarded_14 ?_
        refine g_iload_n hE dX7_guarded_17 rfl ?_
        refine g_iload_n hE dX7_guarded_18 rfl ?_
        obtain ⟨r8, hc7, hf⟩ := b1_of hf
        refine g_callV2r hE mv_X2_alikeInOpen kX_9 rfl wm_RX7_225 (by decide) (Nat.le_of_ble_eq_true rfl) dX7_guarded_19 (c_X2_alikeInOpen hc7) ?_
        refine g_istore [some _, some _, some _, some _, some _] hE dX7_guarded_22 (by decide) rfl ?_
        refine g_aload_n hE dX7_guarded_24 rfl ?_
        refine gtX7_2 hE kX_0 wf_RX7_26 dX7_guarded_25 ?_
        refine g_iload hE dX7_guarded_28 rfl ?_
        obtain ⟨r10, hc9, hf⟩ := b1_of hf
        refine g_callV1r hE mv_X2_mostOfOneKind kX_9 rfl wm_RX7_228 (by decide) (Nat.le_of_ble_eq_true rfl) dX7_guarded_30 (c_X2_mostOfOneKind hc9) ?_
        refine g_bipush hE (16) dX7_guarded_33 (by decide) ?_
        refine g_imul hE dX7_guarded_35 ?_
        refine g_iload_n hE dX7_guarded_36 rfl ?_
        refine g_iload hE dX7_guarded_37 rfl ?_
        obtain ⟨r12, hc11, hf⟩ := b1_of hf
        refine g_callS1r hE ms_J6_bitCount_0f7a4 wm_RX7_210 (by decide) (Nat.le_of_ble_eq_true rfl) dX7_guarded_39 (c_J6_bitCount_0f7a4 hc11) ?_
        refine g_imul hE dX7_guarded_42 ?_
        refine g_icmp_le 48 hE dX7_guarded_43 (by decide) (fun h13 => ?_) (fun h13 => ?_)
        · replace hf := it_f hf (cv_ngt h13)
          refine g_wk [true, true, true, true, false] rfl ?_
          refine g_iinc [some _, some _, some _, some _, none] hE (v_1 + (1 : Int32)) dX7_guarded_48 rfl rfl (by decide) rfl ?_
          refine g_goto 2 hE dX7_guarded_51 (by decide) ?_
          exact (ih3 _ hf)
        · replace hf := it_t hf (cv_gt h13)
          refine g_iconst hE (0) dX7_guarded_46 (by decide) ?_
          obtain ⟨h14, hf⟩ := ck_of hf
          obtain rfl := so1 hf
          exact g_zret hE rfl (bz_nar h14) dX7_guarded_47
  exact hl2 _ _ hf
