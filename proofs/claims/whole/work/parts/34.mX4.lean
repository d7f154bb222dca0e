set_option maxRecDepth 100000 in
set_option maxHeartbeats 4000000 in
theorem wl_X4_widen_43 {G : GT Mm} (rm : Nat) (c1 : Nat) (v2_10 : Int32) (v3_11 : Int32) (v4_12 : Int32) (v5_13 : Int32) (v6_14 : Int64) (v8_15 : Int64) (I : MI) (hc : Cx G cX4_widen yX4_widen.cls none 1 29) (hq : RetQ G anV meV) (hK : gK G = lK rm) (hR : gR G = lR rm) (hn : gnL G = 13) (hrm : rm ≠ 0) (hc1 : isCh c1) (k0 : ML → Option Mm) (hk0 : ∀ (L_26 : ML), WW G 111 [(0, .ref 69), (1, .ref c1), (2, .int v2_10), (3, .int v3_11), (4, .int v4_12), (5, .int v5_13)] [] I L_26 (k0 L_26)) : ∀ (n : Nat) (v10_16 : Int32) (v11_17 : Int32) (L_18 : ML), WW G 43 [(0, .ref 69), (1, .ref c1), (2, .int v2_10), (3, .int v3_11), (4, .int v4_12), (5, .int v5_13), (6, .long v6_14), (8, .long v8_15), (10, .int v10_16), (11, .int v11_17)] [] I L_18 (f_X4_widen_43 rm c1 v2_10 v3_11 v4_12 v5_13 v6_14 v8_15 I k0 n v10_16 v11_17 L_18) := by
  have hN : ∀ i, Nat.blt i 13 = true → i < gnL G := fun i h => hn ▸ Nat.blt_eq.mp h
  intro n
  induction n with
  | zero => intros; exact w_none _ _ _
  | succ n ih =>
    intros v10_16 v11_17 L_18
    rw [f_X4_widen_43]
    refine w_iload (q := 45) (i := 11) (j := 9) hc dX4_widen_43 rfl rfl ?_
    refine w_aload_n (q := 46) (i := 0) (j := 0) hc dX4_widen_45 rfl rfl rfl ?_
    refine gf_X4_21 (q := 49) hc dX4_widen_46 (k_69 hK hrm) rfl ?_
    refine w_icmpge (q := 52) (tgt := 111) hc dX4_widen_49 rfl rfl ?_ ?_
    · refine w_sub [0, 1, 2, 3, 4, 5] rfl ?_
      exact hk0 L_18
    · refine w_iload (q := 54) (i := 10) (j := 8) hc dX4_widen_52 rfl rfl ?_
      refine w_aload_n (q := 55) (i := 0) (j := 0) hc dX4_widen_54 rfl rfl rfl ?_
      refine gf_X4_43 (q := 58) hc dX4_widen_55 (k_69 hK hrm) rfl ?_
      refine w_icmpge (q := 61) (tgt := 111) hc dX4_widen_58 rfl rfl ?_ ?_
      · refine w_sub [0, 1, 2, 3, 4, 5] rfl ?_
        exact hk0 L_18
      · refine w_lload (q := 63) (i := 8) (j := 7) hc dX4_widen_61 rfl rfl ?_
        refine w_iload (q := 65) (i := 11) (j := 9) hc dX4_widen_63 rfl rfl ?_
        refine w_callS_Ri (q := 68) (st := []) (args := [.long v8_15, .int v11_17]) hc (m_X6_image hK hR) dX4_widen_65 ml_X4_96 cf_X6_image st_X6_image rfl rfl (Nat.le_of_ble_eq_true rfl) ⟨Nat.le_of_ble_eq_true rfl, Nat.le_of_ble_eq_true rfl⟩ rfl (fun q_19 => ?_)
        refine w_istore (q := 70) (i := 12) (lv' := [(12, .int q_19), (0, .ref 69), (1, .ref c1), (2, .int v2_10), (3, .int v3_11), (4, .int v4_12), (5, .int v5_13), (6, .long v6_14), (8, .long v8_15), (10, .int v10_16), (11, .int v11_17)]) hc dX4_widen_68 (hN 12 rfl) rfl rfl ?_
        refine w_iload_n (q := 71) (i := 3) (j := 4) hc dX4_widen_70 rfl rfl rfl ?_
        refine w_iload (q := 73) (i := 12) (j := 0) hc dX4_widen_71 rfl rfl ?_
        refine w_ishr (q := 74) hc dX4_widen_73  rfl ?_
        refine w_iconst (q := 75) hc dX4_widen_74 ci_1 rfl ?_
        refine w_iand (q := 76) hc dX4_widen_75  rfl ?_
        refine w_ifeq (q := 79) (tgt := 105) hc dX4_widen_76 rfl rfl ?_ ?_
        · refine w_iincB (q := 108) (i := 11) (j := 10) (lv' := fun v11_20 => [(11, .int v11_20), (12, .int q_19), (0, .ref 69), (1, .ref c1), (2, .int v2_10), (3, .int v3_11), (4, .int v4_12), (5, .int v5_13), (6, .long v6_14), (8, .long v8_15), (10, .int v10_16)]) hc dX4_widen_105 rfl ci_1 (hN 11 rfl) (fun _ => rfl) rfl (fun v11_20 => ?_)
          refine w_goto (tgt := 43) hc dX4_widen_108 rfl ?_
          refine w_sub [2, 3, 4, 5, 6, 7, 8, 9, 10, 0] rfl ?_
          exact ih v10_16 v11_20 L_18
        · refine w_aload_n (q := 80) (i := 0) (j := 1) hc dX4_widen_79 rfl rfl rfl ?_
          refine gf_X4_53 (q := 83) hc dX4_widen_80 (k_69 hK hrm) (r_69_6 hR) rfl ?_
          refine w_iload (q := 85) (i := 10) (j := 9) hc dX4_widen_83 rfl rfl ?_
          refine w_aload_n (q := 86) (i := 1) (j := 2) hc dX4_widen_85 rfl rfl rfl ?_
          refine w_iload_n (q := 87) (i := 2) (j := 3) hc dX4_widen_86 rfl rfl rfl ?_
          refine w_iload (q := 89) (i := 12) (j := 0) hc dX4_widen_87 rfl rfl ?_
          refine w_callV_Rl (q := 92) (st := [.int v10_16, .ref 72]) (args := [.int v2_10, .int q_19]) (p := c1) hc (m_X0_carrier hK hR hc1) dX4_widen_89 ml_X4_100 cf_X0_carrier iv_X0_carrier (kc_0 hK hc1) (C := RX0) (T := TX0) (N := 8) rfl rfl (Nat.lt_of_succ_le (Nat.le_of_ble_eq_true rfl)) rfl rfl (Nat.le_of_ble_eq_true rfl) ⟨Nat.le_of_ble_eq_true rfl, Nat.le_of_ble_eq_true rfl⟩ rfl (fun q_21 => ?_)
          refine w_lload (q := 94) (i := 6) (j := 7) hc dX4_widen_92 rfl rfl ?_
          refine w_aload_n (q := 95) (i := 0) (j := 1) hc dX4_widen_94 rfl rfl rfl ?_
          refine gf_X4_21 (q := 98) hc dX4_widen_95 (k_69 hK hrm) rfl ?_
          refine w_callS_Rl (q := 101) (st := [.int v10_16, .ref 72]) (args := [.long q_21, .long v6_14, .int (I 69 11)]) hc (m_X6_compose hK hR) dX4_widen_98 ml_X4_104 cf_X6_compose st_X6_compose rfl rfl (Nat.le_of_ble_eq_true rfl) ⟨Nat.le_of_ble_eq_true rfl, Nat.le_of_ble_eq_true rfl⟩ rfl (fun q_22 => ?_)
          refine w_last (q := 102) hc dX4_widen_101 (k_72 hK hrm) rfl (fun L_23 => ?_)
          refine w_iincB (q := 105) (i := 10) (j := 9) (lv' := fun v10_24 => [(10, .int v10_24), (12, .int q_19), (0, .ref 69), (1, .ref c1), (2, .int v2_10), (3, .int v3_11), (4, .int v4_12), (5, .int v5_13), (6, .long v6_14), (8, .long v8_15), (11, .int v11_17)]) hc dX4_widen_102 rfl ci_1 (hN 10 rfl) (fun _ => rfl) rfl (fun v10_24 => ?_)
          refine w_iincB (q := 108) (i := 11) (j := 10) (lv' := fun v11_25 => [(11, .int v11_25), (10, .int v10_24), (12, .int q_19), (0, .ref 69), (1, .ref c1), (2, .int v2_10), (3, .int v3_11), (4, .int v4_12), (5, .int v5_13), (6, .long v6_14), (8, .long v8_15)]) hc dX4_widen_105 rfl ci_1 (hN 11 rfl) (fun _ => rfl) rfl (fun v11_25 => ?_)
          refine w_goto (tgt := 43) hc dX4_widen_108 rfl ?_
          refine w_sub [3, 4, 5, 6, 7, 8, 9, 10, 1, 0] rfl ?_
          exact ih v10_24 v11_25 L_23
set_option maxRecDepth 100000 in
set_option maxHeartbeats 4000000 in
theorem wl_X4_widen_8 {G : GT Mm} (rm : Nat) (c1 : Nat) (v2_2 : Int32) (v3_3 : Int32) (v4_4 : Int32) (I : MI) (hc : Cx G cX4_widen yX4_widen.cls none 1 29) (hq : RetQ G anV meV) (hK : gK G = lK rm) (hR : gR G = lR rm) (hn : gnL G = 13) (hrm : rm ≠ 0) (hc1 : isCh c1) (k0 : ML → Option Mm) (hk0 : ∀ (L_28 : ML), WW G 117 [(0, .ref 69), (4, .int v4_4)] [] I L_28 (k0 L_28)) : ∀ (n : Nat) (v5_5 : Int32) (L_6 : ML), WW G 8 [(0, .ref 69), (1, .ref c1), (2, .int v2_2), (3, .int v3_3), (4, .int v4_4), (5, .int v5_5)] [] I L_6 (f_X4_widen_8 rm c1 v2_2 v3_3 v4_4 I k0 n v5_5 L_6) := by
  have hN : ∀ i, Nat.blt i 13 = true → i < gnL G := fun i h => hn ▸ Nat.blt_eq.mp h
  intro n
  induction n with
  | zero => intros; exact w_none _ _ _
  | succ n ih =>
    intros v5_5 L_6
    rw [f_X4_widen_8]
    refine w_iload (q := 10) (i := 5) (j := 5) hc dX4_widen_8 rfl rfl ?_
    refine w_iflt (q := 13) (tgt := 117) hc dX4_widen_10 rfl rfl ?_ ?_
    · refine w_sub [0, 4] rfl ?_
      exact hk0 L_6
    · refine w_aload_n (q := 14) (i := 0) (j := 0) hc dX4_widen_13 rfl rfl rfl ?_
      refine gf_X4_53 (q := 17) hc dX4_widen_14 (k_69 hK hrm) (r_69_6 hR) rfl ?_
      refine w_iload (q := 19) (i := 5) (j := 5) hc dX4_widen_17 rfl rfl ?_
      refine w_lald (q := 20) hc dX4_widen_19 (k_72 hK hrm) rfl ?_
      refine w_lstoreB (q := 22) (i := 6) (lv' := fun v6_7 => [(6, .long v6_7), (0, .ref 69), (1, .ref c1), (2, .int v2_2), (3, .int v3_3), (4, .int v4_4), (5, .int v5_5)]) hc dX4_widen_20 (hN 7 rfl) (fun _ => rfl) rfl (fun v6_7 => ?_)
      refine w_lload (q := 24) (i := 6) (j := 0) hc dX4_widen_22 rfl rfl ?_
      refine w_aload_n (q := 25) (i := 0) (j := 1) hc dX4_widen_24 rfl rfl rfl ?_
      refine gf_X4_21 (q := 28) hc dX4_widen_25 (k_69 hK hrm) rfl ?_
      refine w_callS_Rl (q := 31) (st := []) (args := [.long v6_7, .int (I 69 11)]) hc (m_X6_invert hK hR) dX4_widen_28 ml_X4_92 cf_X6_invert st_X6_invert rfl rfl (Nat.le_of_ble_eq_true rfl) ⟨Nat.le_of_ble_eq_true rfl, Nat.le_of_ble_eq_true rfl⟩ rfl (fun q_8 => ?_)
      refine w_lstore (q := 33) (i := 8) (lv' := [(8, .long q_8), (6, .long v6_7), (0, .ref 69), (1, .ref c1), (2, .int v2_2), (3, .int v3_3), (4, .int v4_4), (5, .int v5_5)]) hc dX4_widen_31 (hN 9 rfl) rfl rfl ?_
      refine w_iload (q := 35) (i := 5) (j := 7) hc dX4_widen_33 rfl rfl ?_
      refine w_iload (q := 37) (i := 4) (j := 6) hc dX4_widen_35 rfl rfl ?_
      refine w_imul (q := 38) hc dX4_widen_37  rfl ?_
      refine w_istoreB (q := 40) (i := 10) (lv' := fun v10_9 => [(10, .int v10_9), (8, .long q_8), (6, .long v6_7), (0, .ref 69), (1, .ref c1), (2, .int v2_2), (3, .int v3_3), (4, .int v4_4), (5, .int v5_5)]) hc dX4_widen_38 (hN 10 rfl) (fun _ => rfl) rfl (fun v10_9 => ?_)
      refine w_iconst (q := 41) hc dX4_widen_40 ci_0 rfl ?_
      refine w_istore (q := 43) (i := 11) (lv' := [(11, .int 0), (10, .int v10_9), (8, .long q_8), (6, .long v6_7), (0, .ref 69), (1, .ref c1), (2, .int v2_2), (3, .int v3_3), (4, .int v4_4), (5, .int v5_5)]) hc dX4_widen_41 (hN 11 rfl) rfl rfl ?_
      refine w_sub [4, 5, 6, 7, 8, 9, 3, 2, 1, 0] rfl ?_
      refine wl_X4_widen_43 rm c1 v2_2 v3_3 v4_4 v5_5 v6_7 q_8 I hc hq hK hR hn hrm hc1 _ ?_ FU v10_9 0 L_6
      intro L_26
      refine w_iincB (q := 114) (i := 5) (j := 5) (lv' := fun v5_27 => [(5, .int v5_27), (0, .ref 69), (1, .ref c1), (2, .int v2_2), (3, .int v3_3), (4, .int v4_4)]) hc dX4_widen_111 rfl ci_m1 (hN 5 rfl) (fun _ => rfl) rfl (fun v5_27 => ?_)
      refine w_goto (tgt := 8) hc dX4_widen_114 rfl ?_
      refine w_sub [1, 2, 3, 4, 5, 0] rfl ?_
      exact ih v5_27 L_26
set_option maxRecDepth 100000 in
set_option maxHeartbeats 4000000 in
theorem m_X4_widen {l : Launch} {K : KT} {R : MR} {rm : Nat} {c1 : Nat} {a2 : Int32} {a3 : Int32} {a4 : Int32} {I : MI} {L : ML} (hK0 : K = lK rm) (hR0 : R = lR rm) (hrm : rm ≠ 0) (hc1 : isCh c1) : MFg l yX4_widen cX4_widen 13 none 1 29 [.ref 69, .ref c1, .int a2, .int a3, .int a4] K R I L anV meV (f_X4_widen rm c1 a2 a3 a4 I L) := by
  refine mf_of (plainFor_of_name (by decide)) (Nat.le_of_ble_eq_true rfl) ?_
  intro G hc _ hK1 hR1 hn hq
  have hK := hK1.trans hK0
  have hR := hR1.trans hR0
  have hN : ∀ i, Nat.blt i 13 = true → i < gnL G := fun i h => hn ▸ Nat.blt_eq.mp h
  unfold f_X4_widen
  show WW G 0 [(0, .ref 69), (1, .ref c1), (2, .int a2), (3, .int a3), (4, .int a4)] [] I L _
  refine w_aload_n (q := 1) (i := 0) (j := 0) hc dX4_widen_0 rfl rfl rfl ?_
  refine gf_X4_9 (q := 4) hc dX4_widen_1 (k_69 hK hrm) rfl ?_
  refine w_iconst (q := 5) hc dX4_widen_4 ci_1 rfl ?_
  refine w_isub (q := 6) hc dX4_widen_5  rfl ?_
  refine w_istoreB (q := 8) (i := 5) (lv' := fun v5_1 => [(5, .int v5_1), (0, .ref 69), (1, .ref c1), (2, .int a2), (3, .int a3), (4, .int a4)]) hc dX4_widen_6 (hN 5 rfl) (fun _ => rfl) rfl (fun v5_1 => ?_)
  refine w_sub [1, 2, 3, 4, 5, 0] rfl ?_
  refine wl_X4_widen_8 rm c1 a2 a3 a4 I hc hq hK hR hn hrm hc1 _ ?_ FU v5_1 L
  intro L_28
  refine w_aload_n (q := 118) (i := 0) (j := 0) hc dX4_widen_117 rfl rfl rfl ?_
  refine w_dup_ref (q := 119) hc dX4_widen_118  rfl ?_
  refine gf_X4_9 (q := 122) hc dX4_widen_119 (k_69 hK hrm) rfl ?_
  refine w_iload (q := 124) (i := 4) (j := 1) hc dX4_widen_122 rfl rfl ?_
  refine w_imul (q := 125) hc dX4_widen_124  rfl ?_
  refine pf_X4_9 (q := 128) hc dX4_widen_125 (k_69 hK hrm) rfl (fun I_29 => ?_)
  exact w_return hc hq dX4_widen_128 rfl rfl
set_option maxRecDepth 100000 in
set_option maxHeartbeats 4000000 in
theorem wl_X4_fill_40 {G : GT Mm} (rm : Nat) (c1 : Nat) (hc : Cx G cX4_fill yX4_fill.cls none 2 61) (hq : RetQ G anV meV) (hK : gK G = lK rm) (hR : gR G = lR rm) (hn : gnL G = 6) (hrm : rm ≠ 0) (hc1 : isCh c1) : ∀ (n : Nat) (v3_8 : Int32) (I_9 : MI) (L_10 : ML), WW G 40 [(0, .ref 69), (1, .ref c1), (3, .int v3_8)] [] I_9 L_10 (f_X4_fill_40 rm c1 n v3_8 I_9 L_10) := by
  have hN : ∀ i, Nat.blt i 6 = true → i < gnL G := fun i h => hn ▸ Nat.blt_eq.mp h
  intro n
  induction n with
  | zero => intros; exact w_none _ _ _
  | succ n ih =>
    intros v3_8 I_9 L_10
    rw [f_X4_fill_40]
    refine w_iload_n (q := 41) (i := 3) (j := 2) hc dX4_fill_40 rfl rfl rfl ?_
    refine w_aload_n (q := 42) (i := 0) (j := 0) hc dX4_fill_41 rfl rfl rfl ?_
    refine gf_X4_21 (q := 45) hc dX4_fill_42 (k_69 hK hrm) rfl ?_
    refine w_icmpge (q := 48) (tgt := 98) hc dX4_fill_45 rfl rfl ?_ ?_
    · exact w_return hc hq dX4_fill_98 rfl rfl
    · refine w_aload_n (q := 49) (i := 1) (j := 1) hc dX4_fill_48 rfl rfl rfl ?_
      refine w_iload_n (q := 50) (i := 3) (j := 2) hc dX4_fill_49 rfl rfl rfl ?_
      refine w_callV_Ri (q := 53) (st := []) (args := [.int v3_8]) (p := c1) hc (m_X0_reachedAt hK hR hc1) dX4_fill_50 ml_X4_77 cf_X0_reachedAt iv_X0_reachedAt (kc_0 hK hc1) (C := RX0) (T := TX0) (N := 8) rfl rfl (Nat.lt_of_succ_le (Nat.le_of_ble_eq_true rfl)) rfl rfl (Nat.le_of_ble_eq_true rfl) ⟨Nat.le_of_ble_eq_true rfl, Nat.le_of_ble_eq_true rfl⟩ rfl (fun q_11 => ?_)
      refine w_istore (q := 55) (i := 4) (lv' := [(4, .int q_11), (0, .ref 69), (1, .ref c1), (3, .int v3_8)]) hc dX4_fill_53 (hN 4 rfl) rfl rfl ?_
      refine w_iload (q := 57) (i := 4) (j := 0) hc dX4_fill_55 rfl rfl ?_
      refine w_callS_Ri (q := 60) (st := []) (args := [.int q_11]) hc (m_J6_bitCount_0f7a4 hK hR) dX4_fill_57 ml_X4_83 cf_J6_bitCount_0f7a4 st_J6_bitCount_0f7a4 rfl rfl (Nat.le_of_ble_eq_true rfl) ⟨Nat.le_of_ble_eq_true rfl, Nat.le_of_ble_eq_true rfl⟩ rfl (fun q_12 => ?_)
      refine w_istore (q := 62) (i := 5) (lv' := [(5, .int q_12), (4, .int q_11), (0, .ref 69), (1, .ref c1), (3, .int v3_8)]) hc dX4_fill_60 (hN 5 rfl) rfl rfl ?_
      refine w_iload (q := 64) (i := 5) (j := 0) hc dX4_fill_62 rfl rfl ?_
      refine w_iconst (q := 65) hc dX4_fill_64 ci_1 rfl ?_
      refine w_icmple (q := 68) (tgt := 92) hc dX4_fill_65 rfl rfl ?_ ?_
      · refine w_iincB (q := 95) (i := 3) (j := 4) (lv' := fun v3_13 => [(3, .int v3_13), (5, .int q_12), (4, .int q_11), (0, .ref 69), (1, .ref c1)]) hc dX4_fill_92 rfl ci_1 (hN 3 rfl) (fun _ => rfl) rfl (fun v3_13 => ?_)
        refine w_goto (tgt := 40) hc dX4_fill_95 rfl ?_
        refine w_sub [3, 4, 0] rfl ?_
        exact ih v3_13 I_9 L_10
      · refine w_aload_n (q := 69) (i := 0) (j := 2) hc dX4_fill_68 rfl rfl rfl ?_
        refine gf_X4_9 (q := 72) hc dX4_fill_69 (k_69 hK hrm) rfl ?_
        refine w_iload (q := 74) (i := 5) (j := 0) hc dX4_fill_72 rfl rfl ?_
        refine w_imul (q := 75) hc dX4_fill_74  rfl ?_
        refine w_aload_n (q := 76) (i := 0) (j := 2) hc dX4_fill_75 rfl rfl rfl ?_
        refine gf_X4_43 (q := 79) hc dX4_fill_76 (k_69 hK hrm) rfl ?_
        refine w_icmpgt (q := 82) (tgt := 92) hc dX4_fill_79 rfl rfl ?_ ?_
        · refine w_iincB (q := 95) (i := 3) (j := 4) (lv' := fun v3_14 => [(3, .int v3_14), (5, .int q_12), (4, .int q_11), (0, .ref 69), (1, .ref c1)]) hc dX4_fill_92 rfl ci_1 (hN 3 rfl) (fun _ => rfl) rfl (fun v3_14 => ?_)
          refine w_goto (tgt := 40) hc dX4_fill_95 rfl ?_
          refine w_sub [3, 4, 0] rfl ?_
          exact ih v3_14 I_9 L_10
        · refine w_aload_n (q := 83) (i := 0) (j := 2) hc dX4_fill_82 rfl rfl rfl ?_
          refine w_aload_n (q := 84) (i := 1) (j := 3) hc dX4_fill_83 rfl rfl rfl ?_
          refine w_iload_n (q := 85) (i := 3) (j := 4) hc dX4_fill_84 rfl rfl rfl ?_
          refine w_iload (q := 87) (i := 4) (j := 1) hc dX4_fill_85 rfl rfl ?_
          refine w_iload (q := 89) (i := 5) (j := 0) hc dX4_fill_87 rfl rfl ?_
          refine w_callV_Wv (q := 92) (st := []) (args := [.ref c1, .int v3_8, .int q_11, .int q_12]) (p := 69) hc (m_X4_widen hK hR hrm hc1) dX4_fill_89 ml_X4_88 cf_X4_widen iv_X4_widen (k_69 hK hrm) (C := RX4) (T := TX4) (N := 16) rfl rfl (Nat.lt_of_succ_le (Nat.le_of_ble_eq_true rfl)) rfl rfl (Nat.le_of_ble_eq_true rfl) ⟨Nat.le_of_ble_eq_true rfl, Nat.le_of_ble_eq_true rfl⟩ rfl (fun q_15 => ?_)
          refine w_iincB (q := 95) (i := 3) (j := 4) (lv' := fun v3_16 => [(3, .int v3_16), (5, .int q_12), (4, .int q_11), (0, .ref 69), (1, .ref c1)]) hc dX4_fill_92 rfl ci_1 (hN 3 rfl) (fun _ => rfl) rfl (fun v3_16 => ?_)
          refine w_goto (tgt := 40) hc dX4_fill_95 rfl ?_
          refine w_sub [3, 4, 0] rfl ?_
          exact ih v3_16 q_15.1 q_15.2
set_option maxRecDepth 100000 in
set_option maxHeartbeats 4000000 in
theorem m_X4_fill {l : Launch} {K : KT} {R : MR} {rm : Nat} {c1 : Nat} {a2 : Int32} {I : MI} {L : ML} (hK0 : K = lK rm) (hR0 : R = lR rm) (hrm : rm ≠ 0) (hc1 : isCh c1) : MFg l yX4_fill cX4_fill 6 none 2 61 [.ref 69, .ref c1, .int a2] K R I L anV meV (f_X4_fill rm c1 a2 I L) := by
  refine mf_of (plainFor_of_name (by decide)) (Nat.le_of_ble_eq_true rfl) ?_
  intro G hc _ hK1 hR1 hn hq
  have hK := hK1.trans hK0
  have hR := hR1.trans hR0
  have hN : ∀ i, Nat.blt i 6 = true → i < gnL G := fun i h => hn ▸ Nat.blt_eq.mp h
  unfold f_X4_fill
  show WW G 0 [(0, .ref 69), (1, .ref c1), (2, .int a2)] [] I L _
  refine w_aload_n (q := 1) (i := 0) (j := 0) hc dX4_fill_0 rfl rfl rfl ?_
  refine w_iload_n (q := 2) (i := 2) (j := 2) hc dX4_fill_1 rfl rfl rfl ?_
  refine pf_X4_21 (q := 5) hc dX4_fill_2 (k_69 hK hrm) rfl (fun I_1 => ?_)
  refine w_aload_n (q := 6) (i := 0) (j := 0) hc dX4_fill_5 rfl rfl rfl ?_
  refine w_iconst (q := 7) hc dX4_fill_6 ci_0 rfl ?_
  refine pf_X4_27 (q := 10) hc dX4_fill_7 (k_69 hK hrm) bz_0 rfl (fun I_2 => ?_)
  refine w_aload_n (q := 11) (i := 0) (j := 0) hc dX4_fill_10 rfl rfl rfl ?_
  refine w_iconst (q := 12) hc dX4_fill_11 ci_0 rfl ?_
  refine pf_X4_31 (q := 15) hc dX4_fill_12 (k_69 hK hrm) bz_0 rfl (fun I_3 => ?_)
  refine w_aload_n (q := 16) (i := 0) (j := 0) hc dX4_fill_15 rfl rfl rfl ?_
  refine w_iconst (q := 17) hc dX4_fill_16 ci_0 rfl ?_
  refine pf_X4_34 (q := 20) hc dX4_fill_17 (k_69 hK hrm) bz_0 rfl (fun I_4 => ?_)
  refine w_aload_n (q := 21) (i := 0) (j := 0) hc dX4_fill_20 rfl rfl rfl ?_
  refine gf_X4_53 (q := 24) hc dX4_fill_21 (k_69 hK hrm) (r_69_6 hR) rfl ?_
  refine w_iconst (q := 25) hc dX4_fill_24 ci_0 rfl ?_
  refine w_aload_n (q := 26) (i := 0) (j := 0) hc dX4_fill_25 rfl rfl rfl ?_
  refine gf_X4_21 (q := 29) hc dX4_fill_26 (k_69 hK hrm) rfl ?_
  refine w_callS_Rl (q := 32) (st := [.int 0, .ref 72]) (args := [.int (I_4 69 11)]) hc (m_X6_identity hK hR) dX4_fill_29 ml_X4_71 cf_X6_identity st_X6_identity rfl rfl (Nat.le_of_ble_eq_true rfl) ⟨Nat.le_of_ble_eq_true rfl, Nat.le_of_ble_eq_true rfl⟩ rfl (fun q_5 => ?_)
  refine w_last (q := 33) hc dX4_fill_32 (k_72 hK hrm) rfl (fun L_6 => ?_)
  refine w_aload_n (q := 34) (i := 0) (j := 0) hc dX4_fill_33 rfl rfl rfl ?_
  refine w_iconst (q := 35) hc dX4_fill_34 ci_1 rfl ?_
  refine pf_X4_9 (q := 38) hc dX4_fill_35 (k_69 hK hrm) rfl (fun I_7 => ?_)
  refine w_iconst (q := 39) hc dX4_fill_38 ci_0 rfl ?_
  refine w_istore_n (q := 40) (i := 3) (lv' := [(3, .int 0), (0, .ref 69), (1, .ref c1), (2, .int a2)]) hc dX4_fill_39 rfl (hN 3 rfl) rfl rfl ?_
  refine w_sub [1, 2, 0] rfl ?_
  exact wl_X4_fill_40 rm c1 hc hq hK hR hn hrm hc1 FU 0 I_7 L_6
set_option maxRecDepth 100000 in
set_option maxHeartbeats 4000000 in
theorem wl_X4_find_13 {G : GT Int32} (rm : Nat) (v1_2 : Int64) (I : MI) (L : ML) (hc : Cx G cX4_find yX4_find.cls (some .int) 0 0) (hq : RetQ G anI (meR I L)) (hK : gK G = lK rm) (hR : gR G = lR rm) (hn : gnL G = 9) (hrm : rm ≠ 0) : ∀ (n : Nat) (v3_3 : Int32) (v4_4 : Int32) (v5_5 : Int32), WW G 13 [(0, .ref 69), (1, .long v1_2), (3, .int v3_3), (4, .int v4_4), (5, .int v5_5)] [] I L (f_X4_find_13 rm v1_2 I L n v3_3 v4_4 v5_5) := by
  have hN : ∀ i, Nat.blt i 9 = true → i < gnL G := fun i h => hn ▸ Nat.blt_eq.mp h
  intro n
  induction n with
  | zero => intros; exact w_none _ _ _
  | succ n ih =>
    intros v3_3 v4_4 v5_5
    rw [f_X4_find_13]
    refine w_iload (q := 15) (i := 5) (j := 4) hc dX4_find_13 rfl rfl ?_
    refine w_bipush (q := 17) hc dX4_find_15 cb_32 rfl ?_
    refine w_icmpge (q := 20) (tgt := 80) hc dX4_find_17 rfl rfl ?_ ?_
    · refine w_iconst (q := 81) hc dX4_find_80 ci_m1 rfl ?_
      exact w_ireturn (v := (-1)) hc hq dX4_find_81 rfl rfl rfl
    · refine w_iload_n (q := 21) (i := 3) (j := 2) hc dX4_find_20 rfl rfl rfl ?_
      refine w_iload (q := 23) (i := 4) (j := 3) hc dX4_find_21 rfl rfl ?_
      refine w_icmpgt (q := 26) (tgt := 80) hc dX4_find_23 rfl rfl ?_ ?_
      · refine w_iconst (q := 81) hc dX4_find_80 ci_m1 rfl ?_
        exact w_ireturn (v := (-1)) hc hq dX4_find_81 rfl rfl rfl
      · refine w_iload_n (q := 27) (i := 3) (j := 2) hc dX4_find_26 rfl rfl rfl ?_
        refine w_iload (q := 29) (i := 4) (j := 3) hc dX4_find_27 rfl rfl ?_
        refine w_iadd (q := 30) hc dX4_find_29  rfl ?_
        refine w_iconst (q := 31) hc dX4_find_30 ci_1 rfl ?_
        refine w_iushr (q := 32) hc dX4_find_31  rfl ?_
        refine w_istoreB (q := 34) (i := 6) (lv' := fun v6_6 => [(6, .int v6_6), (0, .ref 69), (1, .long v1_2), (3, .int v3_3), (4, .int v4_4), (5, .int v5_5)]) hc dX4_find_32 (hN 6 rfl) (fun _ => rfl) rfl (fun v6_6 => ?_)
        refine w_aload_n (q := 35) (i := 0) (j := 1) hc dX4_find_34 rfl rfl rfl ?_
        refine gf_X4_53 (q := 38) hc dX4_find_35 (k_69 hK hrm) (r_69_6 hR) rfl ?_
        refine w_iload (q := 40) (i := 6) (j := 0) hc dX4_find_38 rfl rfl ?_
        refine w_lald (q := 41) hc dX4_find_40 (k_72 hK hrm) rfl ?_
        refine w_lstoreB (q := 43) (i := 7) (lv' := fun v7_7 => [(7, .long v7_7), (6, .int v6_6), (0, .ref 69), (1, .long v1_2), (3, .int v3_3), (4, .int v4_4), (5, .int v5_5)]) hc dX4_find_41 (hN 8 rfl) (fun _ => rfl) rfl (fun v7_7 => ?_)
        refine w_lload (q := 45) (i := 7) (j := 0) hc dX4_find_43 rfl rfl ?_
        refine w_lload_n (q := 46) (i := 1) (j := 3) hc dX4_find_45 rfl rfl rfl ?_
        refine w_lcmp (q := 47) hc dX4_find_46  rfl ?_
        refine w_ifne (q := 50) (tgt := 53) hc dX4_find_47 rfl rfl ?_ ?_
        · refine w_iload (q := 52) (i := 6) (j := 1) hc dX4_find_50 rfl rfl ?_
          exact w_ireturn (v := v6_6) hc hq dX4_find_52 rfl rfl rfl
        · refine w_lload (q := 55) (i := 7) (j := 0) hc dX4_find_53 rfl rfl ?_
          refine w_lload_n (q := 56) (i := 1) (j := 3) hc dX4_find_55 rfl rfl rfl ?_
          refine w_lcmp (q := 57) hc dX4_find_56  rfl ?_
          refine w_ifge (q := 60) (tgt := 68) hc dX4_find_57 rfl rfl ?_ ?_
          · refine w_iload (q := 70) (i := 6) (j := 1) hc dX4_find_68 rfl rfl ?_
            refine w_iconst (q := 71) hc dX4_find_70 ci_1 rfl ?_
            refine w_isub (q := 72) hc dX4_find_71  rfl ?_
            refine w_istoreB (q := 74) (i := 4) (lv' := fun v4_8 => [(4, .int v4_8), (7, .long v7_7), (6, .int v6_6), (0, .ref 69), (1, .long v1_2), (3, .int v3_3), (5, .int v5_5)]) hc dX4_find_72 (hN 4 rfl) (fun _ => rfl) rfl (fun v4_8 => ?_)
            refine w_iincB (q := 77) (i := 5) (j := 6) (lv' := fun v5_9 => [(5, .int v5_9), (4, .int v4_8), (7, .long v7_7), (6, .int v6_6), (0, .ref 69), (1, .long v1_2), (3, .int v3_3)]) hc dX4_find_74 rfl ci_1 (hN 5 rfl) (fun _ => rfl) rfl (fun v5_9 => ?_)
            refine w_goto (tgt := 13) hc dX4_find_77 rfl ?_
            refine w_sub [4, 5, 6, 1, 0] rfl ?_
            exact ih v3_3 v4_8 v5_9
          · refine w_iload (q := 62) (i := 6) (j := 1) hc dX4_find_60 rfl rfl ?_
            refine w_iconst (q := 63) hc dX4_find_62 ci_1 rfl ?_
            refine w_iadd (q := 64) hc dX4_find_63  rfl ?_
            refine w_istore_nB (q := 65) (i := 3) (lv' := fun v3_10 => [(3, .int v3_10), (7, .long v7_7), (6, .int v6_6), (0, .ref 69), (1, .long v1_2), (4, .int v4_4), (5, .int v5_5)]) hc dX4_find_64 rfl (hN 3 rfl) (fun _ => rfl) rfl (fun v3_10 => ?_)
            refine w_goto (tgt := 74) hc dX4_find_65 rfl ?_
            refine w_iincB (q := 77) (i := 5) (j := 6) (lv' := fun v5_11 => [(5, .int v5_11), (3, .int v3_10), (7, .long v7_7), (6, .int v6_6), (0, .ref 69), (1, .long v1_2), (4, .int v4_4)]) hc dX4_find_74 rfl ci_1 (hN 5 rfl) (fun _ => rfl) rfl (fun v5_11 => ?_)
            refine w_goto (tgt := 13) hc dX4_find_77 rfl ?_
            refine w_sub [4, 5, 1, 6, 0] rfl ?_
            exact ih v3_10 v4_4 v5_11
set_option maxRecDepth 100000 in
set_option maxHeartbeats 4000000 in
theorem m_X4_find {l : Launch} {K : KT} {R : MR} {rm : Nat} {a1 : Int64} {I : MI} {L : ML} (hK0 : K = lK rm) (hR0 : R = lR rm) (hrm : rm ≠ 0) : MFg l yX4_find cX4_find 9 (some .int) 0 0 [.ref 69, .long a1] K R I L anI (meR I L) (f_X4_find rm a1 I L) := by
  refine mf_of (plainFor_of_name (by decide)) (Nat.le_of_ble_eq_true rfl) ?_
  intro G hc _ hK1 hR1 hn hq
  have hK := hK1.trans hK0
  have hR := hR1.trans hR0
  have hN : ∀ i, Nat.blt i 9 = true → i < gnL G := fun i h => hn ▸ Nat.blt_eq.mp h
  unfold f_X4_find
  show WW G 0 [(0, .ref 69), (1, .long a1)] [] I L _
  refine w_iconst (q := 1) hc dX4_find_0 ci_0 rfl ?_
  refine w_istore_n (q := 2) (i := 3) (lv' := [(3, .int 0), (0, .ref 69), (1, .long a1)]) hc dX4_find_1 rfl (hN 3 rfl) rfl rfl ?_
  refine w_aload_n (q := 3) (i := 0) (j := 1) hc dX4_find_2 rfl rfl rfl ?_
  refine gf_X4_9 (q := 6) hc dX4_find_3 (k_69 hK hrm) rfl ?_
  refine w_iconst (q := 7) hc dX4_find_6 ci_1 rfl ?_
  refine w_isub (q := 8) hc dX4_find_7  rfl ?_
  refine w_istoreB (q := 10) (i := 4) (lv' := fun v4_1 => [(4, .int v4_1), (3, .int 0), (0, .ref 69), (1, .long a1)]) hc dX4_find_8 (hN 4 rfl) (fun _ => rfl) rfl (fun v4_1 => ?_)
  refine w_iconst (q := 11) hc dX4_find_10 ci_0 rfl ?_
  refine w_istore (q := 13) (i := 5) (lv' := [(5, .int 0), (4, .int v4_1), (3, .int 0), (0, .ref 69), (1, .long a1)]) hc dX4_find_11 (hN 5 rfl) rfl rfl ?_
  refine w_sub [3, 4, 2, 1, 0] rfl ?_
  exact wl_X4_find_13 rm a1 I L hc hq hK hR hn hrm FU 0 v4_1 0
set_option maxRecDepth 100000 in
set_option maxHeartbeats 4000000 in
theorem wl_X4_followMove_3 {G : GT Mm} (rm : Nat) (a3 : Nat) (a4 : Nat) (v1_1 : Int64) (L : ML) (hc : Cx G cX4_followMove yX4_followMove.cls none 1 29) (hq : RetQ G anV meV) (hK : gK G = lK rm) (hR : gR G = lR rm) (hn : gnL G = 7) (hrm : rm ≠ 0) (ha3 : (lK rm)[a3]? = some (10, rm)) (ha4 : (lK rm)[a4]? = some (10, rm)) : ∀ (n : Nat) (v5_2 : Int32) (I_3 : MI), WW G 3 [(0, .ref 69), (1, .long v1_1), (3, .ref a3), (4, .ref a4), (5, .int v5_2)] [] I_3 L (f_X4_followMove_3 rm a3 a4 v1_1 L n v5_2 I_3) := by
  have hN : ∀ i, Nat.blt i 7 = true → i < gnL G := fun i h => hn ▸ Nat.blt_eq.mp h
  intro n
  induction n with
  | zero => intros; exact w_none _ _ _
  | succ n ih =>
    intros v5_2 I_3
    rw [f_X4_followMove_3]
    refine w_iload (q := 5) (i := 5) (j := 4) hc dX4_followMove_3 rfl rfl ?_
    refine w_aload_n (q := 6) (i := 0) (j := 0) hc dX4_followMove_5 rfl rfl rfl ?_
    refine gf_X4_9 (q := 9) hc dX4_followMove_6 (k_69 hK hrm) rfl ?_
    refine w_icmpge (q := 12) (tgt := 57) hc dX4_followMove_9 rfl rfl ?_ ?_
    · exact w_return hc hq dX4_followMove_57 rfl rfl
    · refine w_aload_n (q := 13) (i := 0) (j := 0) hc dX4_followMove_12 rfl rfl rfl ?_
      refine w_aload_n (q := 14) (i := 0) (j := 0) hc dX4_followMove_13 rfl rfl rfl ?_
      refine gf_X4_53 (q := 17) hc dX4_followMove_14 (k_69 hK hrm) (r_69_6 hR) rfl ?_
      refine w_iload (q := 19) (i := 5) (j := 4) hc dX4_followMove_17 rfl rfl ?_
      refine w_lald (q := 20) hc dX4_followMove_19 (k_72 hK hrm) rfl ?_
      refine w_lload_n (q := 21) (i := 1) (j := 1) hc dX4_followMove_20 rfl rfl rfl ?_
      refine w_aload_n (q := 22) (i := 0) (j := 0) hc dX4_followMove_21 rfl rfl rfl ?_
      refine gf_X4_21 (q := 25) hc dX4_followMove_22 (k_69 hK hrm) rfl ?_
      refine w_callS_Rl (q := 28) (st := [.ref 69]) (args := [.long (L 72 (ix v5_2)), .long v1_1, .int (I_3 69 11)]) hc (m_X6_compose hK hR) dX4_followMove_25 ml_X4_104 cf_X6_compose st_X6_compose rfl rfl (Nat.le_of_ble_eq_true rfl) ⟨Nat.le_of_ble_eq_true rfl, Nat.le_of_ble_eq_true rfl⟩ rfl (fun q_4 => ?_)
      refine w_callV_Ri (q := 31) (st := []) (args := [.long q_4]) (p := 69) hc (m_X4_find hK hR hrm) dX4_followMove_28 ml_X4_117 cf_X4_find iv_X4_find (k_69 hK hrm) (C := RX4) (T := TX4) (N := 16) rfl rfl (Nat.lt_of_succ_le (Nat.le_of_ble_eq_true rfl)) rfl rfl (Nat.le_of_ble_eq_true rfl) ⟨Nat.le_of_ble_eq_true rfl, Nat.le_of_ble_eq_true rfl⟩ rfl (fun q_5 => ?_)
      refine w_istore (q := 33) (i := 6) (lv' := [(6, .int q_5), (0, .ref 69), (1, .long v1_1), (3, .ref a3), (4, .ref a4), (5, .int v5_2)]) hc dX4_followMove_31 (hN 6 rfl) rfl rfl ?_
      refine w_iload (q := 35) (i := 6) (j := 0) hc dX4_followMove_33 rfl rfl ?_
      refine w_iflt (q := 38) (tgt := 51) hc dX4_followMove_35 rfl rfl ?_ ?_
      · refine w_iincB (q := 54) (i := 5) (j := 5) (lv' := fun v5_6 => [(5, .int v5_6), (6, .int q_5), (0, .ref 69), (1, .long v1_1), (3, .ref a3), (4, .ref a4)]) hc dX4_followMove_51 rfl ci_1 (hN 5 rfl) (fun _ => rfl) rfl (fun v5_6 => ?_)
        refine w_goto (tgt := 3) hc dX4_followMove_54 rfl ?_
        refine w_sub [2, 3, 4, 5, 0] rfl ?_
        exact ih v5_6 I_3
      · refine w_aload_n (q := 39) (i := 3) (j := 3) hc dX4_followMove_38 rfl rfl rfl ?_
        refine w_iload (q := 41) (i := 5) (j := 5) hc dX4_followMove_39 rfl rfl ?_
        refine w_iload (q := 43) (i := 6) (j := 0) hc dX4_followMove_41 rfl rfl ?_
        refine w_iast (q := 44) hc dX4_followMove_43 (kA hK ha3) rfl (fun I_7 => ?_)
        refine w_aload (q := 46) (i := 4) (j := 4) hc dX4_followMove_44 rfl rfl ?_
        refine w_iload (q := 48) (i := 6) (j := 0) hc dX4_followMove_46 rfl rfl ?_
        refine w_iload (q := 50) (i := 5) (j := 5) hc dX4_followMove_48 rfl rfl ?_
        refine w_iast (q := 51) hc dX4_followMove_50 (kA hK ha4) rfl (fun I_8 => ?_)
        refine w_iincB (q := 54) (i := 5) (j := 5) (lv' := fun v5_9 => [(5, .int v5_9), (6, .int q_5), (0, .ref 69), (1, .long v1_1), (3, .ref a3), (4, .ref a4)]) hc dX4_followMove_51 rfl ci_1 (hN 5 rfl) (fun _ => rfl) rfl (fun v5_9 => ?_)
        refine w_goto (tgt := 3) hc dX4_followMove_54 rfl ?_
        refine w_sub [2, 3, 4, 5, 0] rfl ?_
        exact ih v5_9 I_8
set_option maxRecDepth 100000 in
set_option maxHeartbeats 4000000 in
theorem m_X4_followMove {l : Launch} {K : KT} {R : MR} {rm : Nat} {a1 : Int64} {a3 : Nat} {a4 : Nat} {I : MI} {L : ML} (hK0 : K = lK rm) (hR0 : R = lR rm) (hrm : rm ≠ 0) (ha3 : (lK rm)[a3]? = some (10, rm)) (ha4 : (lK rm)[a4]? = some (10, rm)) : MFg l yX4_followMove cX4_followMove 7 none 1 29 [.ref 69, .long a1, .ref a3, .ref a4] K R I L anV meV (f_X4_followMove rm a1 a3 a4 I L) := by
  refine mf_of (plainFor_of_name (by decide)) (Nat.le_of_ble_eq_true rfl) ?_
  intro G hc _ hK1 hR1 hn hq
  have hK := hK1.trans hK0
  have hR := hR1.trans hR0
  have hN : ∀ i, Nat.blt i 7 = true → i < gnL G := fun i h => hn ▸ Nat.blt_eq.mp h
  unfold f_X4_followMove
  show WW G 0 [(0, .ref 69), (1, .long a1), (3, .ref a3), (4, .ref a4)] [] I L _
  refine w_iconst (q := 1) hc dX4_followMove_0 ci_0 rfl ?_
  refine w_istore (q := 3) (i := 5) (lv' := [(5, .int 0), (0, .ref 69), (1, .long a1), (3, .ref a3), (4, .ref a4)]) hc dX4_followMove_1 (hN 5 rfl) rfl rfl ?_
  refine w_sub [1, 2, 3, 4, 0] rfl ?_
  exact wl_X4_followMove_3 rm a3 a4 a1 L hc hq hK hR hn hrm ha3 ha4 FU 0 I
set_option maxRecDepth 100000 in
set_option maxHeartbeats 4000000 in
theorem wl_X4_reachFrom_5 {G : GT (Int32 × Mm)} (rm : Nat) (v1_1 : Int32) (L : ML) (hc : Cx G cX4_reachFrom yX4_reachFrom.cls (some .int) 0 0) (hq : RetQ G anIW meW) (hK : gK G = lK rm) (hR : gR G = lR rm) (hn : gnL G = 6) (hrm : rm ≠ 0) : ∀ (n : Nat) (v3_2 : Int32) (v4_3 : Int32) (I_4 : MI), WW G 5 [(0, .ref 69), (1, .int v1_1), (3, .int v3_2), (4, .int v4_3)] [] I_4 L (f_X4_reachFrom_5 rm v1_1 L n v3_2 v4_3 I_4) := by
  have hN : ∀ i, Nat.blt i 6 = true → i < gnL G := fun i h => hn ▸ Nat.blt_eq.mp h
  intro n
  induction n with
  | zero => intros; exact w_none _ _ _
  | succ n ih =>
    intros v3_2 v4_3 I_4
    rw [f_X4_reachFrom_5]
    refine w_iload (q := 7) (i := 4) (j := 3) hc dX4_reachFrom_5 rfl rfl ?_
    refine w_aload_n (q := 8) (i := 0) (j := 0) hc dX4_reachFrom_7 rfl rfl rfl ?_
    refine gf_X4_24 (q := 11) hc dX4_reachFrom_8 (k_69 hK hrm) rfl ?_
    refine w_icmpge (q := 14) (tgt := 85) hc dX4_reachFrom_11 rfl rfl ?_ ?_
    · refine w_iload_n (q := 86) (i := 3) (j := 2) hc dX4_reachFrom_85 rfl rfl rfl ?_
      exact w_ireturn (v := v3_2) hc hq dX4_reachFrom_86 rfl rfl rfl
    · refine w_iload_n (q := 15) (i := 3) (j := 2) hc dX4_reachFrom_14 rfl rfl rfl ?_
      refine w_aload_n (q := 16) (i := 0) (j := 0) hc dX4_reachFrom_15 rfl rfl rfl ?_
      refine gf_X4_9 (q := 19) hc dX4_reachFrom_16 (k_69 hK hrm) rfl ?_
      refine w_icmpge (q := 22) (tgt := 85) hc dX4_reachFrom_19 rfl rfl ?_ ?_
      · refine w_iload_n (q := 86) (i := 3) (j := 2) hc dX4_reachFrom_85 rfl rfl rfl ?_
        exact w_ireturn (v := v3_2) hc hq dX4_reachFrom_86 rfl rfl rfl
      · refine w_aload_n (q := 23) (i := 0) (j := 0) hc dX4_reachFrom_22 rfl rfl rfl ?_
        refine gf_X4_68 (q := 26) hc dX4_reachFrom_23 (k_69 hK hrm) (r_69_10 hR) rfl ?_
        refine w_iload (q := 28) (i := 4) (j := 3) hc dX4_reachFrom_26 rfl rfl ?_
        refine w_aald (q := 29) hc dX4_reachFrom_28 (k_76 hK hrm) (fun h => r_row hR (ix_lt h)) rfl (fun hrow_5 => ?_)
        refine w_iload_n (q := 30) (i := 1) (j := 1) hc dX4_reachFrom_29 rfl rfl rfl ?_
        refine w_iald (q := 31) hc dX4_reachFrom_30 (k_row hK hrm (ix_lt hrow_5)) rfl ?_
        refine w_istoreB (q := 33) (i := 5) (lv' := fun v5_6 => [(5, .int v5_6), (0, .ref 69), (1, .int v1_1), (3, .int v3_2), (4, .int v4_3)]) hc dX4_reachFrom_31 (hN 5 rfl) (fun _ => rfl) rfl (fun v5_6 => ?_)
        refine w_aload_n (q := 34) (i := 0) (j := 1) hc dX4_reachFrom_33 rfl rfl rfl ?_
        refine gf_X4_46 (q := 37) hc dX4_reachFrom_34 (k_69 hK hrm) (r_69_4 hR) rfl ?_
        refine w_iload (q := 39) (i := 5) (j := 0) hc dX4_reachFrom_37 rfl rfl ?_
        refine w_iald (q := 40) hc dX4_reachFrom_39 (k_70 hK hrm) rfl ?_
        refine w_iconst (q := 41) hc dX4_reachFrom_40 ci_m1 rfl ?_
        refine w_icmpne (q := 44) (tgt := 79) hc dX4_reachFrom_41 rfl rfl ?_ ?_
        · refine w_aload_n (q := 45) (i := 0) (j := 1) hc dX4_reachFrom_44 rfl rfl rfl ?_
          refine gf_X4_46 (q := 48) hc dX4_reachFrom_45 (k_69 hK hrm) (r_69_4 hR) rfl ?_
          refine w_iload (q := 50) (i := 5) (j := 0) hc dX4_reachFrom_48 rfl rfl ?_
          refine w_aload_n (q := 51) (i := 0) (j := 1) hc dX4_reachFrom_50 rfl rfl rfl ?_
          refine gf_X4_46 (q := 54) hc dX4_reachFrom_51 (k_69 hK hrm) (r_69_4 hR) rfl ?_
          refine w_iload_n (q := 55) (i := 1) (j := 2) hc dX4_reachFrom_54 rfl rfl rfl ?_
          refine w_iald (q := 56) hc dX4_reachFrom_55 (k_70 hK hrm) rfl ?_
          refine w_iconst (q := 57) hc dX4_reachFrom_56 ci_1 rfl ?_
          refine w_iadd (q := 58) hc dX4_reachFrom_57  rfl ?_
          refine w_iast (q := 59) hc dX4_reachFrom_58 (k_70 hK hrm) rfl (fun I_8 => ?_)
          refine w_aload_n (q := 60) (i := 0) (j := 1) hc dX4_reachFrom_59 rfl rfl rfl ?_
          refine gf_X4_60 (q := 63) hc dX4_reachFrom_60 (k_69 hK hrm) (r_69_8 hR) rfl ?_
          refine w_iload (q := 65) (i := 5) (j := 0) hc dX4_reachFrom_63 rfl rfl ?_
          refine w_iload (q := 67) (i := 4) (j := 4) hc dX4_reachFrom_65 rfl rfl ?_
          refine w_iast (q := 68) hc dX4_reachFrom_67 (k_74 hK hrm) rfl (fun I_9 => ?_)
          refine w_aload_n (q := 69) (i := 0) (j := 1) hc dX4_reachFrom_68 rfl rfl rfl ?_
          refine gf_X4_63 (q := 72) hc dX4_reachFrom_69 (k_69 hK hrm) (r_69_9 hR) rfl ?_
          refine w_iload_n (q := 73) (i := 3) (j := 3) hc dX4_reachFrom_72 rfl rfl rfl ?_
          refine w_iload (q := 75) (i := 5) (j := 0) hc dX4_reachFrom_73 rfl rfl ?_
          refine w_iast (q := 76) hc dX4_reachFrom_75 (k_75 hK hrm) rfl (fun I_10 => ?_)
          refine w_iincB (q := 79) (i := 3) (j := 3) (lv' := fun v3_11 => [(3, .int v3_11), (5, .int v5_6), (0, .ref 69), (1, .int v1_1), (4, .int v4_3)]) hc dX4_reachFrom_76 rfl ci_1 (hN 3 rfl) (fun _ => rfl) rfl (fun v3_11 => ?_)
          refine w_iincB (q := 82) (i := 4) (j := 4) (lv' := fun v4_12 => [(4, .int v4_12), (3, .int v3_11), (5, .int v5_6), (0, .ref 69), (1, .int v1_1)]) hc dX4_reachFrom_79 rfl ci_1 (hN 4 rfl) (fun _ => rfl) rfl (fun v4_12 => ?_)
          refine w_goto (tgt := 5) hc dX4_reachFrom_82 rfl ?_
          refine w_sub [3, 4, 1, 0] rfl ?_
          exact ih v3_11 v4_12 I_10
        · refine w_iincB (q := 82) (i := 4) (j := 4) (lv' := fun v4_7 => [(4, .int v4_7), (5, .int v5_6), (0, .ref 69), (1, .int v1_1), (3, .int v3_2)]) hc dX4_reachFrom_79 rfl ci_1 (hN 4 rfl) (fun _ => rfl) rfl (fun v4_7 => ?_)
          refine w_goto (tgt := 5) hc dX4_reachFrom_82 rfl ?_
          refine w_sub [2, 3, 4, 0] rfl ?_
          exact ih v3_2 v4_7 I_4
set_option maxRecDepth 100000 in
set_option maxHeartbeats 4000000 in
theorem m_X4_reachFrom {l : Launch} {K : KT} {R : MR} {rm : Nat} {a1 : Int32} {a2 : Int32} {I : MI} {L : ML} (hK0 : K = lK rm) (hR0 : R = lR rm) (hrm : rm ≠ 0) : MFg l yX4_reachFrom cX4_reachFrom 6 (some .int) 0 0 [.ref 69, .int a1, .int a2] K R I L anIW meW (f_X4_reachFrom rm a1 a2 I L) := by
  refine mf_of (plainFor_of_name (by decide)) (Nat.le_of_ble_eq_true rfl) ?_
  intro G hc _ hK1 hR1 hn hq
  have hK := hK1.trans hK0
  have hR := hR1.trans hR0
  have hN : ∀ i, Nat.blt i 6 = true → i < gnL G := fun i h => hn ▸ Nat.blt_eq.mp h
  unfold f_X4_reachFrom
  show WW G 0 [(0, .ref 69), (1, .int a1), (2, .int a2)] [] I L _
  refine w_iload_n (q := 1) (i := 2) (j := 2) hc dX4_reachFrom_0 rfl rfl rfl ?_
  refine w_istore_n (q := 2) (i := 3) (lv' := [(3, .int a2), (0, .ref 69), (1, .int a1), (2, .int a2)]) hc dX4_reachFrom_1 rfl (hN 3 rfl) rfl rfl ?_
  refine w_iconst (q := 3) hc dX4_reachFrom_2 ci_0 rfl ?_
  refine w_istore (q := 5) (i := 4) (lv' := [(4, .int 0), (3, .int a2), (0, .ref 69), (1, .int a1), (2, .int a2)]) hc dX4_reachFrom_3 (hN 4 rfl) rfl rfl ?_
  refine w_sub [2, 3, 1, 0] rfl ?_
  exact wl_X4_reachFrom_5 rm a1 L hc hq hK hR hn hrm FU a2 0 I
set_option maxRecDepth 100000 in
set_option maxHeartbeats 4000000 in
theorem wl_X4_measure_95 {G : GT Mm} (rm : Nat) (a1 : Nat) (hc : Cx G cX4_measure yX4_measure.cls none 2 55) (hq : RetQ G anV meV) (hK : gK G = lK rm) (hR : gR G = lR rm) (hn : gnL G = 5) (hrm : rm ≠ 0) (ha1 : (lK rm)[a1]? = some (11, 6)) (k0 : Int32 → MI → ML → Option Mm) (hk0 : ∀ (v3_26 : Int32) (I_27 : MI) (L_28 : ML), WW G 129 [(0, .ref 69), (3, .int v3_26)] [] I_27 L_28 (k0 v3_26 I_27 L_28)) : ∀ (n : Nat) (v3_19 : Int32) (v4_20 : Int32) (I_21 : MI) (L_22 : ML), WW G 95 [(0, .ref 69), (3, .int v3_19), (4, .int v4_20)] [] I_21 L_22 (f_X4_measure_95 rm a1 k0 n v3_19 v4_20 I_21 L_22) := by
  have hN : ∀ i, Nat.blt i 5 = true → i < gnL G := fun i h => hn ▸ Nat.blt_eq.mp h
  intro n
  induction n with
  | zero => intros; exact w_none _ _ _
  | succ n ih =>
    intros v3_19 v4_20 I_21 L_22
    rw [f_X4_measure_95]
    refine w_iload (q := 97) (i := 4) (j := 2) hc dX4_measure_95 rfl rfl ?_
    refine w_iload_n (q := 98) (i := 3) (j := 1) hc dX4_measure_97 rfl rfl rfl ?_
    refine w_icmpge (q := 101) (tgt := 129) hc dX4_measure_98 rfl rfl ?_ ?_
    · refine w_sub [0, 1] rfl ?_
      exact hk0 v3_19 I_21 L_22
    · refine w_iload (q := 103) (i := 4) (j := 2) hc dX4_measure_101 rfl rfl ?_
      refine w_aload_n (q := 104) (i := 0) (j := 0) hc dX4_measure_103 rfl rfl rfl ?_
      refine gf_X4_9 (q := 107) hc dX4_measure_104 (k_69 hK hrm) rfl ?_
      refine w_icmpge (q := 110) (tgt := 129) hc dX4_measure_107 rfl rfl ?_ ?_
      · refine w_sub [0, 1] rfl ?_
        exact hk0 v3_19 I_21 L_22
      · refine w_aload_n (q := 111) (i := 0) (j := 0) hc dX4_measure_110 rfl rfl rfl ?_
        refine w_aload_n (q := 112) (i := 0) (j := 0) hc dX4_measure_111 rfl rfl rfl ?_
        refine gf_X4_63 (q := 115) hc dX4_measure_112 (k_69 hK hrm) (r_69_9 hR) rfl ?_
        refine w_iload (q := 117) (i := 4) (j := 2) hc dX4_measure_115 rfl rfl ?_
        refine w_iald (q := 118) hc dX4_measure_117 (k_75 hK hrm) rfl ?_
        refine w_iload_n (q := 119) (i := 3) (j := 1) hc dX4_measure_118 rfl rfl rfl ?_
        refine w_callV_Wi (q := 122) (st := []) (args := [.int (I_21 75 (ix v4_20)), .int v3_19]) (p := 69) hc (m_X4_reachFrom hK hR hrm) dX4_measure_119 ml_X4_114 cf_X4_reachFrom iv_X4_reachFrom (k_69 hK hrm) (C := RX4) (T := TX4) (N := 16) rfl rfl (Nat.lt_of_succ_le (Nat.le_of_ble_eq_true rfl)) rfl rfl (Nat.le_of_ble_eq_true rfl) ⟨Nat.le_of_ble_eq_true rfl, Nat.le_of_ble_eq_true rfl⟩ rfl (fun q_23 => ?_)
        refine w_istore_nB (q := 123) (i := 3) (lv' := fun v3_24 => [(3, .int v3_24), (0, .ref 69), (4, .int v4_20)]) hc dX4_measure_122 rfl (hN 3 rfl) (fun _ => rfl) rfl (fun v3_24 => ?_)
        refine w_iincB (q := 126) (i := 4) (j := 2) (lv' := fun v4_25 => [(4, .int v4_25), (3, .int v3_24), (0, .ref 69)]) hc dX4_measure_123 rfl ci_1 (hN 4 rfl) (fun _ => rfl) rfl (fun v4_25 => ?_)
        refine w_goto (tgt := 95) hc dX4_measure_126 rfl ?_
        refine w_sub [2, 1, 0] rfl ?_
        exact ih v3_24 v4_25 q_23.2.1 q_23.2.2
set_option maxRecDepth 100000 in
set_option maxHeartbeats 4000000 in
theorem wl_X4_measure_55 {G : GT Mm} (rm : Nat) (a1 : Nat) (L : ML) (hc : Cx G cX4_measure yX4_measure.cls none 2 55) (hq : RetQ G anV meV) (hK : gK G = lK rm) (hR : gR G = lR rm) (hn : gnL G = 5) (hrm : rm ≠ 0) (ha1 : (lK rm)[a1]? = some (11, 6)) (k0 : MI → Option Mm) (hk0 : ∀ (I_16 : MI), WW G 76 [(0, .ref 69)] [] I_16 L (k0 I_16)) : ∀ (n : Nat) (v3_12 : Int32) (I_13 : MI), WW G 55 [(0, .ref 69), (3, .int v3_12)] [] I_13 L (f_X4_measure_55 rm a1 L k0 n v3_12 I_13) := by
  have hN : ∀ i, Nat.blt i 5 = true → i < gnL G := fun i h => hn ▸ Nat.blt_eq.mp h
  intro n
  induction n with
  | zero => intros; exact w_none _ _ _
  | succ n ih =>
    intros v3_12 I_13
    rw [f_X4_measure_55]
    refine w_iload_n (q := 56) (i := 3) (j := 1) hc dX4_measure_55 rfl rfl rfl ?_
    refine w_aload_n (q := 57) (i := 0) (j := 0) hc dX4_measure_56 rfl rfl rfl ?_
    refine gf_X4_9 (q := 60) hc dX4_measure_57 (k_69 hK hrm) rfl ?_
    refine w_icmpge (q := 63) (tgt := 76) hc dX4_measure_60 rfl rfl ?_ ?_
    · refine w_sub [0] rfl ?_
      exact hk0 I_13
    · refine w_aload_n (q := 64) (i := 0) (j := 0) hc dX4_measure_63 rfl rfl rfl ?_
      refine gf_X4_46 (q := 67) hc dX4_measure_64 (k_69 hK hrm) (r_69_4 hR) rfl ?_
      refine w_iload_n (q := 68) (i := 3) (j := 1) hc dX4_measure_67 rfl rfl rfl ?_
      refine w_iconst (q := 69) hc dX4_measure_68 ci_m1 rfl ?_
      refine w_iast (q := 70) hc dX4_measure_69 (k_70 hK hrm) rfl (fun I_14 => ?_)
      refine w_iincB (q := 73) (i := 3) (j := 1) (lv' := fun v3_15 => [(3, .int v3_15), (0, .ref 69)]) hc dX4_measure_70 rfl ci_1 (hN 3 rfl) (fun _ => rfl) rfl (fun v3_15 => ?_)
      refine w_goto (tgt := 55) hc dX4_measure_73 rfl ?_
      refine w_sub [1, 0] rfl ?_
      exact ih v3_15 I_14
set_option maxRecDepth 100000 in
set_option maxHeartbeats 4000000 in
theorem wl_X4_measure_17 {G : GT Mm} (rm : Nat) (a1 : Nat) (v2_2 : Int32) (hc : Cx G cX4_measure yX4_measure.cls none 2 55) (hq : RetQ G anV meV) (hK : gK G = lK rm) (hR : gR G = lR rm) (hn : gnL G = 5) (hrm : rm ≠ 0) (ha1 : (lK rm)[a1]? = some (11, 6)) (k0 : MI → ML → Option Mm) (hk0 : ∀ (I_10 : MI) (L_11 : ML), WW G 53 [(0, .ref 69)] [] I_10 L_11 (k0 I_10 L_11)) : ∀ (n : Nat) (v3_3 : Int32) (I_4 : MI) (L_5 : ML), WW G 17 [(0, .ref 69), (1, .ref a1), (2, .int v2_2), (3, .int v3_3)] [] I_4 L_5 (f_X4_measure_17 rm a1 v2_2 k0 n v3_3 I_4 L_5) := by
  have hN : ∀ i, Nat.blt i 5 = true → i < gnL G := fun i h => hn ▸ Nat.blt_eq.mp h
  intro n
  induction n with
  | zero => intros; exact w_none _ _ _
  | succ n ih =>
    intros v3_3 I_4 L_5
    rw [f_X4_measure_17]
    refine w_iload_n (q := 18) (i := 3) (j := 3) hc dX4_measure_17 rfl rfl rfl ?_
    refine w_iload_n (q := 19) (i := 2) (j := 2) hc dX4_measure_18 rfl rfl rfl ?_
    refine w_icmpge (q := 22) (tgt := 53) hc dX4_measure_19 rfl rfl ?_ ?_
    · refine w_sub [0] rfl ?_
      exact hk0 I_4 L_5
    · refine w_aload_n (q := 23) (i := 0) (j := 0) hc dX4_measure_22 rfl rfl rfl ?_
      refine w_aload_n (q := 24) (i := 1) (j := 1) hc dX4_measure_23 rfl rfl rfl ?_
      refine w_iload_n (q := 25) (i := 3) (j := 3) hc dX4_measure_24 rfl rfl rfl ?_
      refine w_lald (q := 26) hc dX4_measure_25 (kA hK ha1) rfl ?_
      refine w_aload_n (q := 27) (i := 0) (j := 0) hc dX4_measure_26 rfl rfl rfl ?_
      refine gf_X4_68 (q := 30) hc dX4_measure_27 (k_69 hK hrm) (r_69_10 hR) rfl ?_
      refine w_iconst (q := 31) hc dX4_measure_30 ci_2 rfl ?_
      refine w_iload_n (q := 32) (i := 3) (j := 3) hc dX4_measure_31 rfl rfl rfl ?_
      refine w_imul (q := 33) hc dX4_measure_32  rfl ?_
      refine w_aald (q := 34) hc dX4_measure_33 (k_76 hK hrm) (fun h => r_row hR (ix_lt h)) rfl (fun hrow_6 => ?_)
      refine w_aload_n (q := 35) (i := 0) (j := 0) hc dX4_measure_34 rfl rfl rfl ?_
      refine gf_X4_68 (q := 38) hc dX4_measure_35 (k_69 hK hrm) (r_69_10 hR) rfl ?_
      refine w_iconst (q := 39) hc dX4_measure_38 ci_2 rfl ?_
      refine w_iload_n (q := 40) (i := 3) (j := 3) hc dX4_measure_39 rfl rfl rfl ?_
      refine w_imul (q := 41) hc dX4_measure_40  rfl ?_
      refine w_iconst (q := 42) hc dX4_measure_41 ci_1 rfl ?_
      refine w_iadd (q := 43) hc dX4_measure_42  rfl ?_
      refine w_aald (q := 44) hc dX4_measure_43 (k_76 hK hrm) (fun h => r_row hR (ix_lt h)) rfl (fun hrow_7 => ?_)
      refine w_callV_Wv (q := 47) (st := []) (args := [.long (L_5 a1 (ix v3_3)), .ref (77 + ix (2 * v3_3)), .ref (77 + ix ((2 * v3_3) + 1))]) (p := 69) hc (m_X4_followMove hK hR hrm (kB hK (k_row hK hrm (ix_lt hrow_6))) (kB hK (k_row hK hrm (ix_lt hrow_7)))) dX4_measure_44 ml_X4_110 cf_X4_followMove iv_X4_followMove (k_69 hK hrm) (C := RX4) (T := TX4) (N := 16) rfl rfl (Nat.lt_of_succ_le (Nat.le_of_ble_eq_true rfl)) rfl rfl (Nat.le_of_ble_eq_true rfl) ⟨Nat.le_of_ble_eq_true rfl, Nat.le_of_ble_eq_true rfl⟩ rfl (fun q_8 => ?_)
      refine w_iincB (q := 50) (i := 3) (j := 3) (lv' := fun v3_9 => [(3, .int v3_9), (0, .ref 69), (1, .ref a1), (2, .int v2_2)]) hc dX4_measure_47 rfl ci_1 (hN 3 rfl) (fun _ => rfl) rfl (fun v3_9 => ?_)
      refine w_goto (tgt := 17) hc dX4_measure_50 rfl ?_
      refine w_sub [1, 2, 3, 0] rfl ?_
      exact ih v3_9 q_8.1 q_8.2
set_option maxRecDepth 100000 in
set_option maxHeartbeats 4000000 in
theorem m_X4_measure {l : Launch} {K : KT} {R : MR} {rm : Nat} {a1 : Nat} {a2 : Int32} {I : MI} {L : ML} (hK0 : K = lK rm) (hR0 : R = lR rm) (hrm : rm ≠ 0) (ha1 : (lK rm)[a1]? = some (11, 6)) : MFg l yX4_measure cX4_measure 5 none 2 55 [.ref 69, .ref a1, .int a2] K R I L anV meV (f_X4_measure rm a1 a2 I L) := by
  refine mf_of (plainFor_of_name (by decide)) (Nat.le_of_ble_eq_true rfl) ?_
  intro G hc _ hK1 hR1 hn hq
  have hK := hK1.trans hK0
  have hR := hR1.trans hR0
  have hN : ∀ i, Nat.blt i 5 = true → i < gnL G := fun i h => hn ▸ Nat.blt_eq.mp h
  unfold f_X4_measure
  show WW G 0 [(0, .ref 69), (1, .ref a1), (2, .int a2)] [] I L _
  refine w_aload_n (q := 1) (i := 0) (j := 0) hc dX4_measure_0 rfl rfl rfl ?_
  refine gf_X4_27 (q := 4) hc dX4_measure_1 (k_69 hK hrm) rfl ?_
  refine w_ifeq (q := 7) (tgt := 8) hc dX4_measure_4 rfl rfl ?_ ?_
  · refine w_aload_n (q := 9) (i := 0) (j := 0) hc dX4_measure_8 rfl rfl rfl ?_
    refine w_iconst (q := 10) hc dX4_measure_9 ci_2 rfl ?_
    refine w_iload_n (q := 11) (i := 2) (j := 2) hc dX4_measure_10 rfl rfl rfl ?_
    refine w_imul (q := 12) hc dX4_measure_11  rfl ?_
    refine pf_X4_24 (q := 15) hc dX4_measure_12 (k_69 hK hrm) rfl (fun I_1 => ?_)
    refine w_iconst (q := 16) hc dX4_measure_15 ci_0 rfl ?_
    refine w_istore_n (q := 17) (i := 3) (lv' := [(3, .int 0), (0, .ref 69), (1, .ref a1), (2, .int a2)]) hc dX4_measure_16 rfl (hN 3 rfl) rfl rfl ?_
    refine w_sub [1, 2, 3, 0] rfl ?_
    refine wl_X4_measure_17 rm a1 a2 hc hq hK hR hn hrm ha1 _ ?_ FU 0 I_1 L
    intro I_10 L_11
    refine w_iconst (q := 54) hc dX4_measure_53 ci_0 rfl ?_
    refine w_istore_n (q := 55) (i := 3) (lv' := [(3, .int 0), (0, .ref 69)]) hc dX4_measure_54 rfl (hN 3 rfl) rfl rfl ?_
    refine w_sub [1, 0] rfl ?_
    refine wl_X4_measure_55 rm a1 L_11 hc hq hK hR hn hrm ha1 _ ?_ FU 0 I_10
    intro I_16
    refine w_aload_n (q := 77) (i := 0) (j := 0) hc dX4_measure_76 rfl rfl rfl ?_
    refine gf_X4_46 (q := 80) hc dX4_measure_77 (k_69 hK hrm) (r_69_4 hR) rfl ?_
    refine w_iconst (q := 81) hc dX4_measure_80 ci_0 rfl ?_
    refine w_iconst (q := 82) hc dX4_measure_81 ci_0 rfl ?_
    refine w_iast (q := 83) hc dX4_measure_82 (k_70 hK hrm) rfl (fun I_17 => ?_)
    refine w_aload_n (q := 84) (i := 0) (j := 0) hc dX4_measure_83 rfl rfl rfl ?_
    refine gf_X4_63 (q := 87) hc dX4_measure_84 (k_69 hK hrm) (r_69_9 hR) rfl ?_
    refine w_iconst (q := 88) hc dX4_measure_87 ci_0 rfl ?_
    refine w_iconst (q := 89) hc dX4_measure_88 ci_0 rfl ?_
    refine w_iast (q := 90) hc dX4_measure_89 (k_75 hK hrm) rfl (fun I_18 => ?_)
    refine w_iconst (q := 91) hc dX4_measure_90 ci_1 rfl ?_
    refine w_istore_n (q := 92) (i := 3) (lv' := [(3, .int 1), (0, .ref 69)]) hc dX4_measure_91 rfl (hN 3 rfl) rfl rfl ?_
    refine w_iconst (q := 93) hc dX4_measure_92 ci_0 rfl ?_
    refine w_istore (q := 95) (i := 4) (lv' := [(4, .int 0), (3, .int 1), (0, .ref 69)]) hc dX4_measure_93 (hN 4 rfl) rfl rfl ?_
    refine w_sub [2, 1, 0] rfl ?_
    refine wl_X4_measure_95 rm a1 hc hq hK hR hn hrm ha1 _ ?_ FU 1 0 I_18 L_11
    intro v3_26 I_27 L_28
    refine w_aload_n (q := 130) (i := 0) (j := 0) hc dX4_measure_129 rfl rfl rfl ?_
    refine w_aload_n (q := 131) (i := 0) (j := 0) hc dX4_measure_130 rfl rfl rfl ?_
    refine gf_X4_46 (q := 134) hc dX4_measure_131 (k_69 hK hrm) (r_69_4 hR) rfl ?_
    refine w_aload_n (q := 135) (i := 0) (j := 0) hc dX4_measure_134 rfl rfl rfl ?_
    refine gf_X4_63 (q := 138) hc dX4_measure_135 (k_69 hK hrm) (r_69_9 hR) rfl ?_
    refine w_iload_n (q := 139) (i := 3) (j := 1) hc dX4_measure_138 rfl rfl rfl ?_
    refine w_iconst (q := 140) hc dX4_measure_139 ci_1 rfl ?_
    refine w_isub (q := 141) hc dX4_measure_140  rfl ?_
    refine w_iald (q := 142) hc dX4_measure_141 (k_75 hK hrm) rfl ?_
    refine w_iald (q := 143) hc dX4_measure_142 (k_70 hK hrm) rfl ?_
    refine pf_X4_15 (q := 146) hc dX4_measure_143 (k_69 hK hrm) rfl (fun I_29 => ?_)
    refine w_aload_n (q := 147) (i := 0) (j := 0) hc dX4_measure_146 rfl rfl rfl ?_
    refine w_iconst (q := 148) hc dX4_measure_147 ci_1 rfl ?_
    refine pf_X4_27 (q := 151) hc dX4_measure_148 (k_69 hK hrm) bz_1 rfl (fun I_30 => ?_)
    exact w_return hc hq dX4_measure_151 rfl rfl
  · exact w_return hc hq dX4_measure_7 rfl rfl
set_option maxRecDepth 100000 in
set_option maxHeartbeats 4000000 in
theorem wl_X4_gatherKin_42 {G : GT Mm} (rm : Nat) (a2 : Nat) (v3_7 : Int32) (v5_9 : Int32) (L : ML) (hc : Cx G cX4_gatherKin yX4_gatherKin.cls none 2 49) (hq : RetQ G anV meV) (hK : gK G = lK rm) (hR : gR G = lR rm) (hn : gnL G = 8) (hrm : rm ≠ 0) (ha2 : (lK rm)[a2]? = some (11, 6)) (k0 : Int32 → MI → Option Mm) (hk0 : ∀ (v4_22 : Int32) (I_23 : MI), WW G 144 [(0, .ref 69), (2, .ref a2), (3, .int v3_7), (4, .int v4_22), (5, .int v5_9)] [] I_23 L (k0 v4_22 I_23)) : ∀ (n : Nat) (v4_8 : Int32) (v6_10 : Int32) (I_11 : MI), WW G 42 [(0, .ref 69), (2, .ref a2), (3, .int v3_7), (4, .int v4_8), (5, .int v5_9), (6, .int v6_10)] [] I_11 L (f_X4_gatherKin_42 rm a2 v3_7 v5_9 L k0 n v4_8 v6_10 I_11) := by
  have hN : ∀ i, Nat.blt i 8 = true → i < gnL G := fun i h => hn ▸ Nat.blt_eq.mp h
  intro n
  induction n with
  | zero => intros; exact w_none _ _ _
  | succ n ih =>
    intros v4_8 v6_10 I_11
    rw [f_X4_gatherKin_42]
    refine w_iload (q := 44) (i := 6) (j := 5) hc dX4_gatherKin_42 rfl rfl ?_
    refine w_aload_n (q := 45) (i := 2) (j := 1) hc dX4_gatherKin_44 rfl rfl rfl ?_
    refine w_alenJ (q := 46) hc dX4_gatherKin_45 (kA hK ha2) cn_6 rfl ?_
    refine w_icmpge (q := 49) (tgt := 144) hc dX4_gatherKin_46 rfl rfl ?_ ?_
    · refine w_sub [0, 1, 2, 3, 4] rfl ?_
      exact hk0 v4_8 I_11
    · refine w_iload_n (q := 50) (i := 3) (j := 2) hc dX4_gatherKin_49 rfl rfl rfl ?_
      refine w_iload (q := 52) (i := 6) (j := 5) hc dX4_gatherKin_50 rfl rfl ?_
      refine w_ishr (q := 53) hc dX4_gatherKin_52  rfl ?_
      refine w_iconst (q := 54) hc dX4_gatherKin_53 ci_1 rfl ?_
      refine w_iand (q := 55) hc dX4_gatherKin_54  rfl ?_
      refine w_ifne (q := 58) (tgt := 61) hc dX4_gatherKin_55 rfl rfl ?_ ?_
      · refine w_goto (tgt := 138) hc dX4_gatherKin_58 rfl ?_
        refine w_iincB (q := 141) (i := 6) (j := 5) (lv' := fun v6_21 => [(6, .int v6_21), (0, .ref 69), (2, .ref a2), (3, .int v3_7), (4, .int v4_8), (5, .int v5_9)]) hc dX4_gatherKin_138 rfl ci_1 (hN 6 rfl) (fun _ => rfl) rfl (fun v6_21 => ?_)
        refine w_goto (tgt := 42) hc dX4_gatherKin_141 rfl ?_
        refine w_sub [1, 2, 3, 4, 5, 0] rfl ?_
        exact ih v4_8 v6_21 I_11
      · refine w_aload_n (q := 62) (i := 0) (j := 0) hc dX4_gatherKin_61 rfl rfl rfl ?_
        refine w_aload_n (q := 63) (i := 0) (j := 0) hc dX4_gatherKin_62 rfl rfl rfl ?_
        refine gf_X4_53 (q := 66) hc dX4_gatherKin_63 (k_69 hK hrm) (r_69_6 hR) rfl ?_
        refine w_aload_n (q := 67) (i := 0) (j := 0) hc dX4_gatherKin_66 rfl rfl rfl ?_
        refine gf_X4_63 (q := 70) hc dX4_gatherKin_67 (k_69 hK hrm) (r_69_9 hR) rfl ?_
        refine w_iload (q := 72) (i := 5) (j := 4) hc dX4_gatherKin_70 rfl rfl ?_
        refine w_iald (q := 73) hc dX4_gatherKin_72 (k_75 hK hrm) rfl ?_
        refine w_lald (q := 74) hc dX4_gatherKin_73 (k_72 hK hrm) rfl ?_
        refine w_aload_n (q := 75) (i := 2) (j := 1) hc dX4_gatherKin_74 rfl rfl rfl ?_
        refine w_iload (q := 77) (i := 6) (j := 5) hc dX4_gatherKin_75 rfl rfl ?_
        refine w_lald (q := 78) hc dX4_gatherKin_77 (kA hK ha2) rfl ?_
        refine w_aload_n (q := 79) (i := 0) (j := 0) hc dX4_gatherKin_78 rfl rfl rfl ?_
        refine gf_X4_21 (q := 82) hc dX4_gatherKin_79 (k_69 hK hrm) rfl ?_
        refine w_callS_Rl (q := 85) (st := [.ref 69]) (args := [.long (L 72 (ix (I_11 75 (ix v5_9)))), .long (L a2 (ix v6_10)), .int (I_11 69 11)]) hc (m_X6_conjugate hK hR) dX4_gatherKin_82 ml_X4_125 cf_X6_conjugate st_X6_conjugate rfl rfl (Nat.le_of_ble_eq_true rfl) ⟨Nat.le_of_ble_eq_true rfl, Nat.le_of_ble_eq_true rfl⟩ rfl (fun q_12 => ?_)
        refine w_callV_Ri (q := 88) (st := []) (args := [.long q_12]) (p := 69) hc (m_X4_find hK hR hrm) dX4_gatherKin_85 ml_X4_117 cf_X4_find iv_X4_find (k_69 hK hrm) (C := RX4) (T := TX4) (N := 16) rfl rfl (Nat.lt_of_succ_le (Nat.le_of_ble_eq_true rfl)) rfl rfl (Nat.le_of_ble_eq_true rfl) ⟨Nat.le_of_ble_eq_true rfl, Nat.le_of_ble_eq_true rfl⟩ rfl (fun q_13 => ?_)
        refine w_istore (q := 90) (i := 7) (lv' := [(7, .int q_13), (0, .ref 69), (2, .ref a2), (3, .int v3_7), (4, .int v4_8), (5, .int v5_9), (6, .int v6_10)]) hc dX4_gatherKin_88 (hN 7 rfl) rfl rfl ?_
        refine w_iload (q := 92) (i := 7) (j := 0) hc dX4_gatherKin_90 rfl rfl ?_
        refine w_iflt (q := 95) (tgt := 138) hc dX4_gatherKin_92 rfl rfl ?_ ?_
        · refine w_iincB (q := 141) (i := 6) (j := 6) (lv' := fun v6_14 => [(6, .int v6_14), (7, .int q_13), (0, .ref 69), (2, .ref a2), (3, .int v3_7), (4, .int v4_8), (5, .int v5_9)]) hc dX4_gatherKin_138 rfl ci_1 (hN 6 rfl) (fun _ => rfl) rfl (fun v6_14 => ?_)
          refine w_goto (tgt := 42) hc dX4_gatherKin_141 rfl ?_
          refine w_sub [2, 3, 4, 5, 6, 0] rfl ?_
          exact ih v4_8 v6_14 I_11
        · refine w_aload_n (q := 96) (i := 0) (j := 1) hc dX4_gatherKin_95 rfl rfl rfl ?_
          refine gf_X4_50 (q := 99) hc dX4_gatherKin_96 (k_69 hK hrm) (r_69_5 hR) rfl ?_
          refine w_iload (q := 101) (i := 7) (j := 0) hc dX4_gatherKin_99 rfl rfl ?_
          refine w_iald (q := 102) hc dX4_gatherKin_101 (k_71 hK hrm) rfl ?_
          refine w_iconst (q := 103) hc dX4_gatherKin_102 ci_m1 rfl ?_
          refine w_icmpne (q := 106) (tgt := 138) hc dX4_gatherKin_103 rfl rfl ?_ ?_
          · refine w_iload (q := 108) (i := 4) (j := 4) hc dX4_gatherKin_106 rfl rfl ?_
            refine w_aload_n (q := 109) (i := 0) (j := 1) hc dX4_gatherKin_108 rfl rfl rfl ?_
            refine gf_X4_43 (q := 112) hc dX4_gatherKin_109 (k_69 hK hrm) rfl ?_
            refine w_icmpge (q := 115) (tgt := 138) hc dX4_gatherKin_112 rfl rfl ?_ ?_
            · refine w_iincB (q := 141) (i := 6) (j := 6) (lv' := fun v6_16 => [(6, .int v6_16), (7, .int q_13), (0, .ref 69), (2, .ref a2), (3, .int v3_7), (4, .int v4_8), (5, .int v5_9)]) hc dX4_gatherKin_138 rfl ci_1 (hN 6 rfl) (fun _ => rfl) rfl (fun v6_16 => ?_)
              refine w_goto (tgt := 42) hc dX4_gatherKin_141 rfl ?_
              refine w_sub [2, 3, 4, 5, 6, 0] rfl ?_
              exact ih v4_8 v6_16 I_11
            · refine w_aload_n (q := 116) (i := 0) (j := 1) hc dX4_gatherKin_115 rfl rfl rfl ?_
              refine gf_X4_50 (q := 119) hc dX4_gatherKin_116 (k_69 hK hrm) (r_69_5 hR) rfl ?_
              refine w_iload (q := 121) (i := 7) (j := 0) hc dX4_gatherKin_119 rfl rfl ?_
              refine w_aload_n (q := 122) (i := 0) (j := 1) hc dX4_gatherKin_121 rfl rfl rfl ?_
              refine gf_X4_18 (q := 125) hc dX4_gatherKin_122 (k_69 hK hrm) rfl ?_
              refine w_iast (q := 126) hc dX4_gatherKin_125 (k_71 hK hrm) rfl (fun I_17 => ?_)
              refine w_aload_n (q := 127) (i := 0) (j := 1) hc dX4_gatherKin_126 rfl rfl rfl ?_
              refine gf_X4_63 (q := 130) hc dX4_gatherKin_127 (k_69 hK hrm) (r_69_9 hR) rfl ?_
              refine w_iload (q := 132) (i := 4) (j := 4) hc dX4_gatherKin_130 rfl rfl ?_
              refine w_iload (q := 134) (i := 7) (j := 0) hc dX4_gatherKin_132 rfl rfl ?_
              refine w_iast (q := 135) hc dX4_gatherKin_134 (k_75 hK hrm) rfl (fun I_18 => ?_)
              refine w_iincB (q := 138) (i := 4) (j := 4) (lv' := fun v4_19 => [(4, .int v4_19), (7, .int q_13), (0, .ref 69), (2, .ref a2), (3, .int v3_7), (5, .int v5_9), (6, .int v6_10)]) hc dX4_gatherKin_135 rfl ci_1 (hN 4 rfl) (fun _ => rfl) rfl (fun v4_19 => ?_)
              refine w_iincB (q := 141) (i := 6) (j := 6) (lv' := fun v6_20 => [(6, .int v6_20), (4, .int v4_19), (7, .int q_13), (0, .ref 69), (2, .ref a2), (3, .int v3_7), (5, .int v5_9)]) hc dX4_gatherKin_138 rfl ci_1 (hN 6 rfl) (fun _ => rfl) rfl (fun v6_20 => ?_)
              refine w_goto (tgt := 42) hc dX4_gatherKin_141 rfl ?_
              refine w_sub [3, 4, 5, 1, 6, 0] rfl ?_
              exact ih v4_19 v6_20 I_18
          · refine w_iincB (q := 141) (i := 6) (j := 6) (lv' := fun v6_15 => [(6, .int v6_15), (7, .int q_13), (0, .ref 69), (2, .ref a2), (3, .int v3_7), (4, .int v4_8), (5, .int v5_9)]) hc dX4_gatherKin_138 rfl ci_1 (hN 6 rfl) (fun _ => rfl) rfl (fun v6_15 => ?_)
            refine w_goto (tgt := 42) hc dX4_gatherKin_141 rfl ?_
            refine w_sub [2, 3, 4, 5, 6, 0] rfl ?_
            exact ih v4_8 v6_15 I_11
set_option maxRecDepth 100000 in
set_option maxHeartbeats 4000000 in
theorem wl_X4_gatherKin_23 {G : GT Mm} (rm : Nat) (a2 : Nat) (v3_3 : Int32) (L : ML) (hc : Cx G cX4_gatherKin yX4_gatherKin.cls none 2 49) (hq : RetQ G anV meV) (hK : gK G = lK rm) (hR : gR G = lR rm) (hn : gnL G = 8) (hrm : rm ≠ 0) (ha2 : (lK rm)[a2]? = some (11, 6)) : ∀ (n : Nat) (v4_4 : Int32) (v5_5 : Int32) (I_6 : MI), WW G 23 [(0, .ref 69), (2, .ref a2), (3, .int v3_3), (4, .int v4_4), (5, .int v5_5)] [] I_6 L (f_X4_gatherKin_23 rm a2 v3_3 L n v4_4 v5_5 I_6) := by
  have hN : ∀ i, Nat.blt i 8 = true → i < gnL G := fun i h => hn ▸ Nat.blt_eq.mp h
  intro n
  induction n with
  | zero => intros; exact w_none _ _ _
  | succ n ih =>
    intros v4_4 v5_5 I_6
    rw [f_X4_gatherKin_23]
    refine w_iload (q := 25) (i := 5) (j := 4) hc dX4_gatherKin_23 rfl rfl ?_
    refine w_iload (q := 27) (i := 4) (j := 3) hc dX4_gatherKin_25 rfl rfl ?_
    refine w_icmpge (q := 30) (tgt := 150) hc dX4_gatherKin_27 rfl rfl ?_ ?_
    · exact w_return hc hq dX4_gatherKin_150 rfl rfl
    · refine w_iload (q := 32) (i := 5) (j := 4) hc dX4_gatherKin_30 rfl rfl ?_
      refine w_aload_n (q := 33) (i := 0) (j := 0) hc dX4_gatherKin_32 rfl rfl rfl ?_
      refine gf_X4_9 (q := 36) hc dX4_gatherKin_33 (k_69 hK hrm) rfl ?_
      refine w_icmpge (q := 39) (tgt := 150) hc dX4_gatherKin_36 rfl rfl ?_ ?_
      · exact w_return hc hq dX4_gatherKin_150 rfl rfl
      · refine w_iconst (q := 40) hc dX4_gatherKin_39 ci_0 rfl ?_
        refine w_istore (q := 42) (i := 6) (lv' := [(6, .int 0), (0, .ref 69), (2, .ref a2), (3, .int v3_3), (4, .int v4_4), (5, .int v5_5)]) hc dX4_gatherKin_40 (hN 6 rfl) rfl rfl ?_
        refine w_sub [1, 2, 3, 4, 5, 0] rfl ?_
        refine wl_X4_gatherKin_42 rm a2 v3_3 v5_5 L hc hq hK hR hn hrm ha2 _ ?_ FU v4_4 0 I_6
        intro v4_22 I_23
        refine w_iincB (q := 147) (i := 5) (j := 4) (lv' := fun v5_24 => [(5, .int v5_24), (0, .ref 69), (2, .ref a2), (3, .int v3_3), (4, .int v4_22)]) hc dX4_gatherKin_144 rfl ci_1 (hN 5 rfl) (fun _ => rfl) rfl (fun v5_24 => ?_)
        refine w_goto (tgt := 23) hc dX4_gatherKin_147 rfl ?_
        refine w_sub [1, 2, 3, 4, 0] rfl ?_
        exact ih v4_22 v5_24 I_23
set_option maxRecDepth 100000 in
set_option maxHeartbeats 4000000 in
theorem m_X4_gatherKin {l : Launch} {K : KT} {R : MR} {rm : Nat} {a1 : Int32} {a2 : Nat} {a3 : Int32} {I : MI} {L : ML} (hK0 : K = lK rm) (hR0 : R = lR rm) (hrm : rm ≠ 0) (ha2 : (lK rm)[a2]? = some (11, 6)) : MFg l yX4_gatherKin cX4_gatherKin 8 none 2 49 [.ref 69, .int a1, .ref a2, .int a3] K R I L anV meV (f_X4_gatherKin rm a1 a2 a3 I L) := by
  refine mf_of (plainFor_of_name (by decide)) (Nat.le_of_ble_eq_true rfl) ?_
  intro G hc _ hK1 hR1 hn hq
  have hK := hK1.trans hK0
  have hR := hR1.trans hR0
  have hN : ∀ i, Nat.blt i 8 = true → i < gnL G := fun i h => hn ▸ Nat.blt_eq.mp h
  unfold f_X4_gatherKin
  show WW G 0 [(0, .ref 69), (1, .int a1), (2, .ref a2), (3, .int a3)] [] I L _
  refine w_aload_n (q := 1) (i := 0) (j := 0) hc dX4_gatherKin_0 rfl rfl rfl ?_
  refine gf_X4_50 (q := 4) hc dX4_gatherKin_1 (k_69 hK hrm) (r_69_5 hR) rfl ?_
  refine w_iload_n (q := 5) (i := 1) (j := 1) hc dX4_gatherKin_4 rfl rfl rfl ?_
  refine w_aload_n (q := 6) (i := 0) (j := 0) hc dX4_gatherKin_5 rfl rfl rfl ?_
  refine gf_X4_18 (q := 9) hc dX4_gatherKin_6 (k_69 hK hrm) rfl ?_
  refine w_iast (q := 10) hc dX4_gatherKin_9 (k_71 hK hrm) rfl (fun I_1 => ?_)
  refine w_aload_n (q := 11) (i := 0) (j := 0) hc dX4_gatherKin_10 rfl rfl rfl ?_
  refine gf_X4_63 (q := 14) hc dX4_gatherKin_11 (k_69 hK hrm) (r_69_9 hR) rfl ?_
  refine w_iconst (q := 15) hc dX4_gatherKin_14 ci_0 rfl ?_
  refine w_iload_n (q := 16) (i := 1) (j := 1) hc dX4_gatherKin_15 rfl rfl rfl ?_
  refine w_iast (q := 17) hc dX4_gatherKin_16 (k_75 hK hrm) rfl (fun I_2 => ?_)
  refine w_iconst (q := 18) hc dX4_gatherKin_17 ci_1 rfl ?_
  refine w_istore (q := 20) (i := 4) (lv' := [(4, .int 1), (0, .ref 69), (1, .int a1), (2, .ref a2), (3, .int a3)]) hc dX4_gatherKin_18 (hN 4 rfl) rfl rfl ?_
  refine w_iconst (q := 21) hc dX4_gatherKin_20 ci_0 rfl ?_
  refine w_istore (q := 23) (i := 5) (lv' := [(5, .int 0), (4, .int 1), (0, .ref 69), (1, .int a1), (2, .ref a2), (3, .int a3)]) hc dX4_gatherKin_21 (hN 5 rfl) rfl rfl ?_
  refine w_sub [2, 4, 5, 1, 0] rfl ?_
  exact wl_X4_gatherKin_23 rm a2 a3 L hc hq hK hR hn hrm ha2 FU 1 0 I_2
set_option maxRecDepth 100000 in
set_option maxHeartbeats 4000000 in
theorem wl_X4_sort_38 {G : GT Mm} (rm : Nat) (a1 : Nat) (v2_8 : Int32) (hc : Cx G cX4_sort yX4_sort.cls none 3 76) (hq : RetQ G anV meV) (hK : gK G = lK rm) (hR : gR G = lR rm) (hn : gnL G = 4) (hrm : rm ≠ 0) (ha1 : (lK rm)[a1]? = some (11, 6)) (k0 : MI → ML → Option Mm) (hk0 : ∀ (I_16 : MI) (L_17 : ML), WW G 79 [(0, .ref 69)] [] I_16 L_17 (k0 I_16 L_17)) : ∀ (n : Nat) (v3_9 : Int32) (I_10 : MI) (L_11 : ML), WW G 38 [(0, .ref 69), (1, .ref a1), (2, .int v2_8), (3, .int v3_9)] [] I_10 L_11 (f_X4_sort_38 rm a1 v2_8 k0 n v3_9 I_10 L_11) := by
  have hN : ∀ i, Nat.blt i 4 = true → i < gnL G := fun i h => hn ▸ Nat.blt_eq.mp h
  intro n
  induction n with
  | zero => intros; exact w_none _ _ _
  | succ n ih =>
    intros v3_9 I_10 L_11
    rw [f_X4_sort_38]
    refine w_iload_n (q := 39) (i := 3) (j := 3) hc dX4_sort_38 rfl rfl rfl ?_
    refine w_aload_n (q := 40) (i := 0) (j := 0) hc dX4_sort_39 rfl rfl rfl ?_
    refine gf_X4_9 (q := 43) hc dX4_sort_40 (k_69 hK hrm) rfl ?_
    refine w_icmpge (q := 46) (tgt := 79) hc dX4_sort_43 rfl rfl ?_ ?_
    · refine w_sub [0] rfl ?_
      exact hk0 I_10 L_11
    · refine w_aload_n (q := 47) (i := 0) (j := 0) hc dX4_sort_46 rfl rfl rfl ?_
      refine gf_X4_50 (q := 50) hc dX4_sort_47 (k_69 hK hrm) (r_69_5 hR) rfl ?_
      refine w_iload_n (q := 51) (i := 3) (j := 3) hc dX4_sort_50 rfl rfl rfl ?_
      refine w_iald (q := 52) hc dX4_sort_51 (k_71 hK hrm) rfl ?_
      refine w_iconst (q := 53) hc dX4_sort_52 ci_m1 rfl ?_
      refine w_icmpne (q := 56) (tgt := 73) hc dX4_sort_53 rfl rfl ?_ ?_
      · refine w_aload_n (q := 57) (i := 0) (j := 0) hc dX4_sort_56 rfl rfl rfl ?_
        refine w_iload_n (q := 58) (i := 3) (j := 3) hc dX4_sort_57 rfl rfl rfl ?_
        refine w_aload_n (q := 59) (i := 1) (j := 1) hc dX4_sort_58 rfl rfl rfl ?_
        refine w_iload_n (q := 60) (i := 2) (j := 2) hc dX4_sort_59 rfl rfl rfl ?_
        refine w_callV_Wv (q := 63) (st := []) (args := [.int v3_9, .ref a1, .int v2_8]) (p := 69) hc (m_X4_gatherKin hK hR hrm (kB hK (kA hK ha1))) dX4_sort_60 ml_X4_121 cf_X4_gatherKin iv_X4_gatherKin (k_69 hK hrm) (C := RX4) (T := TX4) (N := 16) rfl rfl (Nat.lt_of_succ_le (Nat.le_of_ble_eq_true rfl)) rfl rfl (Nat.le_of_ble_eq_true rfl) ⟨Nat.le_of_ble_eq_true rfl, Nat.le_of_ble_eq_true rfl⟩ rfl (fun q_13 => ?_)
        refine w_aload_n (q := 64) (i := 0) (j := 0) hc dX4_sort_63 rfl rfl rfl ?_
        refine w_dup_ref (q := 65) hc dX4_sort_64  rfl ?_
        refine gf_X4_18 (q := 68) hc dX4_sort_65 (k_69 hK hrm) rfl ?_
        refine w_iconst (q := 69) hc dX4_sort_68 ci_1 rfl ?_
        refine w_iadd (q := 70) hc dX4_sort_69  rfl ?_
        refine pf_X4_18 (q := 73) hc dX4_sort_70 (k_69 hK hrm) rfl (fun I_14 => ?_)
        refine w_iincB (q := 76) (i := 3) (j := 3) (lv' := fun v3_15 => [(3, .int v3_15), (0, .ref 69), (1, .ref a1), (2, .int v2_8)]) hc dX4_sort_73 rfl ci_1 (hN 3 rfl) (fun _ => rfl) rfl (fun v3_15 => ?_)
        refine w_goto (tgt := 38) hc dX4_sort_76 rfl ?_
        refine w_sub [1, 2, 3, 0] rfl ?_
        exact ih v3_15 I_14 q_13.2
      · refine w_iincB (q := 76) (i := 3) (j := 3) (lv' := fun v3_12 => [(3, .int v3_12), (0, .ref 69), (1, .ref a1), (2, .int v2_8)]) hc dX4_sort_73 rfl ci_1 (hN 3 rfl) (fun _ => rfl) rfl (fun v3_12 => ?_)
        refine w_goto (tgt := 38) hc dX4_sort_76 rfl ?_
        refine w_sub [1, 2, 3, 0] rfl ?_
        exact ih v3_12 I_10 L_11
set_option maxRecDepth 100000 in
set_option maxHeartbeats 4000000 in
theorem wl_X4_sort_10 {G : GT Mm} (rm : Nat) (a1 : Nat) (v2_1 : Int32) (L : ML) (hc : Cx G cX4_sort yX4_sort.cls none 3 76) (hq : RetQ G anV meV) (hK : gK G = lK rm) (hR : gR G = lR rm) (hn : gnL G = 4) (hrm : rm ≠ 0) (ha1 : (lK rm)[a1]? = some (11, 6)) (k0 : MI → Option Mm) (hk0 : ∀ (I_6 : MI), WW G 31 [(0, .ref 69), (1, .ref a1), (2, .int v2_1)] [] I_6 L (k0 I_6)) : ∀ (n : Nat) (v3_2 : Int32) (I_3 : MI), WW G 10 [(0, .ref 69), (1, .ref a1), (2, .int v2_1), (3, .int v3_2)] [] I_3 L (f_X4_sort_10 rm a1 v2_1 L k0 n v3_2 I_3) := by
  have hN : ∀ i, Nat.blt i 4 = true → i < gnL G := fun i h => hn ▸ Nat.blt_eq.mp h
  intro n
  induction n with
  | zero => intros; exact w_none _ _ _
  | succ n ih =>
    intros v3_2 I_3
    rw [f_X4_sort_10]
    refine w_iload_n (q := 11) (i := 3) (j := 3) hc dX4_sort_10 rfl rfl rfl ?_
    refine w_aload_n (q := 12) (i := 0) (j := 0) hc dX4_sort_11 rfl rfl rfl ?_
    refine gf_X4_9 (q := 15) hc dX4_sort_12 (k_69 hK hrm) rfl ?_
    refine w_icmpge (q := 18) (tgt := 31) hc dX4_sort_15 rfl rfl ?_ ?_
    · refine w_sub [0, 1, 2] rfl ?_
      exact hk0 I_3
    · refine w_aload_n (q := 19) (i := 0) (j := 0) hc dX4_sort_18 rfl rfl rfl ?_
      refine gf_X4_50 (q := 22) hc dX4_sort_19 (k_69 hK hrm) (r_69_5 hR) rfl ?_
      refine w_iload_n (q := 23) (i := 3) (j := 3) hc dX4_sort_22 rfl rfl rfl ?_
      refine w_iconst (q := 24) hc dX4_sort_23 ci_m1 rfl ?_
      refine w_iast (q := 25) hc dX4_sort_24 (k_71 hK hrm) rfl (fun I_4 => ?_)
      refine w_iincB (q := 28) (i := 3) (j := 3) (lv' := fun v3_5 => [(3, .int v3_5), (0, .ref 69), (1, .ref a1), (2, .int v2_1)]) hc dX4_sort_25 rfl ci_1 (hN 3 rfl) (fun _ => rfl) rfl (fun v3_5 => ?_)
      refine w_goto (tgt := 10) hc dX4_sort_28 rfl ?_
      refine w_sub [1, 2, 3, 0] rfl ?_
      exact ih v3_5 I_4
set_option maxRecDepth 100000 in
set_option maxHeartbeats 4000000 in
theorem m_X4_sort {l : Launch} {K : KT} {R : MR} {rm : Nat} {a1 : Nat} {a2 : Int32} {I : MI} {L : ML} (hK0 : K = lK rm) (hR0 : R = lR rm) (hrm : rm ≠ 0) (ha1 : (lK rm)[a1]? = some (11, 6)) : MFg l yX4_sort cX4_sort 4 none 3 76 [.ref 69, .ref a1, .int a2] K R I L anV meV (f_X4_sort rm a1 a2 I L) := by
  refine mf_of (plainFor_of_name (by decide)) (Nat.le_of_ble_eq_true rfl) ?_
  intro G hc _ hK1 hR1 hn hq
  have hK := hK1.trans hK0
  have hR := hR1.trans hR0
  have hN : ∀ i, Nat.blt i 4 = true → i < gnL G := fun i h => hn ▸ Nat.blt_eq.mp h
  unfold f_X4_sort
  show WW G 0 [(0, .ref 69), (1, .ref a1), (2, .int a2)] [] I L _
  refine w_aload_n (q := 1) (i := 0) (j := 0) hc dX4_sort_0 rfl rfl rfl ?_
  refine gf_X4_31 (q := 4) hc dX4_sort_1 (k_69 hK hrm) rfl ?_
  refine w_ifeq (q := 7) (tgt := 8) hc dX4_sort_4 rfl rfl ?_ ?_
  · refine w_iconst (q := 9) hc dX4_sort_8 ci_0 rfl ?_
    refine w_istore_n (q := 10) (i := 3) (lv' := [(3, .int 0), (0, .ref 69), (1, .ref a1), (2, .int a2)]) hc dX4_sort_9 rfl (hN 3 rfl) rfl rfl ?_
    refine w_sub [1, 2, 3, 0] rfl ?_
    refine wl_X4_sort_10 rm a1 a2 L hc hq hK hR hn hrm ha1 _ ?_ FU 0 I
    intro I_6
    refine w_aload_n (q := 32) (i := 0) (j := 0) hc dX4_sort_31 rfl rfl rfl ?_
    refine w_iconst (q := 33) hc dX4_sort_32 ci_0 rfl ?_
    refine pf_X4_18 (q := 36) hc dX4_sort_33 (k_69 hK hrm) rfl (fun I_7 => ?_)
    refine w_iconst (q := 37) hc dX4_sort_36 ci_0 rfl ?_
    refine w_istore_n (q := 38) (i := 3) (lv' := [(3, .int 0), (0, .ref 69), (1, .ref a1), (2, .int a2)]) hc dX4_sort_37 rfl (hN 3 rfl) rfl rfl ?_
    refine w_sub [1, 2, 3, 0] rfl ?_
    refine wl_X4_sort_38 rm a1 a2 hc hq hK hR hn hrm ha1 _ ?_ FU 0 I_7 L
    intro I_16 L_17
    refine w_aload_n (q := 80) (i := 0) (j := 0) hc dX4_sort_79 rfl rfl rfl ?_
    refine w_iconst (q := 81) hc dX4_sort_80 ci_1 rfl ?_
    refine pf_X4_31 (q := 84) hc dX4_sort_81 (k_69 hK hrm) bz_1 rfl (fun I_18 => ?_)
    exact w_return hc hq dX4_sort_84 rfl rfl
  · exact w_return hc hq dX4_sort_7 rfl rfl
set_option maxRecDepth 100000 in
set_option maxHeartbeats 4000000 in
theorem wl_X4_shapeAll_10 {G : GT Mm} (rm : Nat) (I : MI) (hc : Cx G cX4_shapeAll yX4_shapeAll.cls none 2 51) (hq : RetQ G anV meV) (hK : gK G = lK rm) (hR : gR G = lR rm) (hn : gnL G = 2) (hrm : rm ≠ 0) (k0 : ML → Option Mm) (hk0 : ∀ (L_6 : ML), WW G 43 [(0, .ref 69)] [] I L_6 (k0 L_6)) : ∀ (n : Nat) (v1_1 : Int32) (L_2 : ML), WW G 10 [(0, .ref 69), (1, .int v1_1)] [] I L_2 (f_X4_shapeAll_10 rm I k0 n v1_1 L_2) := by
  have hN : ∀ i, Nat.blt i 2 = true → i < gnL G := fun i h => hn ▸ Nat.blt_eq.mp h
  intro n
  induction n with
  | zero => intros; exact w_none _ _ _
  | succ n ih =>
    intros v1_1 L_2
    rw [f_X4_shapeAll_10]
    refine w_iload_n (q := 11) (i := 1) (j := 1) hc dX4_shapeAll_10 rfl rfl rfl ?_
    refine w_aload_n (q := 12) (i := 0) (j := 0) hc dX4_shapeAll_11 rfl rfl rfl ?_
    refine gf_X4_9 (q := 15) hc dX4_shapeAll_12 (k_69 hK hrm) rfl ?_
    refine w_icmpge (q := 18) (tgt := 43) hc dX4_shapeAll_15 rfl rfl ?_ ?_
    · refine w_sub [0] rfl ?_
      exact hk0 L_2
    · refine w_aload_n (q := 19) (i := 0) (j := 0) hc dX4_shapeAll_18 rfl rfl rfl ?_
      refine gf_X4_57 (q := 22) hc dX4_shapeAll_19 (k_69 hK hrm) (r_69_7 hR) rfl ?_
      refine w_iload_n (q := 23) (i := 1) (j := 1) hc dX4_shapeAll_22 rfl rfl rfl ?_
      refine w_aload_n (q := 24) (i := 0) (j := 0) hc dX4_shapeAll_23 rfl rfl rfl ?_
      refine gf_X4_53 (q := 27) hc dX4_shapeAll_24 (k_69 hK hrm) (r_69_6 hR) rfl ?_
      refine w_iload_n (q := 28) (i := 1) (j := 1) hc dX4_shapeAll_27 rfl rfl rfl ?_
      refine w_lald (q := 29) hc dX4_shapeAll_28 (k_72 hK hrm) rfl ?_
      refine w_aload_n (q := 30) (i := 0) (j := 0) hc dX4_shapeAll_29 rfl rfl rfl ?_
      refine gf_X4_21 (q := 33) hc dX4_shapeAll_30 (k_69 hK hrm) rfl ?_
      refine w_callS_Rl (q := 36) (st := [.int v1_1, .ref 73]) (args := [.long (L_2 72 (ix v1_1)), .int (I 69 11)]) hc (m_X6_shape hK hR) dX4_shapeAll_33 ml_X4_140 cf_X6_shape st_X6_shape rfl rfl (Nat.le_of_ble_eq_true rfl) ⟨Nat.le_of_ble_eq_true rfl, Nat.le_of_ble_eq_true rfl⟩ rfl (fun q_3 => ?_)
      refine w_last (q := 37) hc dX4_shapeAll_36 (k_73 hK hrm) rfl (fun L_4 => ?_)
      refine w_iincB (q := 40) (i := 1) (j := 1) (lv' := fun v1_5 => [(1, .int v1_5), (0, .ref 69)]) hc dX4_shapeAll_37 rfl ci_1 (hN 1 rfl) (fun _ => rfl) rfl (fun v1_5 => ?_)
      refine w_goto (tgt := 10) hc dX4_shapeAll_40 rfl ?_
      refine w_sub [1, 0] rfl ?_
      exact ih v1_5 L_4
set_option maxRecDepth 100000 in
set_option maxHeartbeats 4000000 in
theorem m_X4_shapeAll {l : Launch} {K : KT} {R : MR} {rm : Nat} {I : MI} {L : ML} (hK0 : K = lK rm) (hR0 : R = lR rm) (hrm : rm ≠ 0) : MFg l yX4_shapeAll cX4_shapeAll 2 none 2 51 [.ref 69] K R I L anV meV (f_X4_shapeAll rm I L) := by
  refine mf_of (plainFor_of_name (by decide)) (Nat.le_of_ble_eq_true rfl) ?_
  intro G hc _ hK1 hR1 hn hq
  have hK := hK1.trans hK0
  have hR := hR1.trans hR0
  have hN : ∀ i, Nat.blt i 2 = true → i < gnL G := fun i h => hn ▸ Nat.blt_eq.mp h
  unfold f_X4_shapeAll
  show WW G 0 [(0, .ref 69)] [] I L _
  refine w_aload_n (q := 1) (i := 0) (j := 0) hc dX4_shapeAll_0 rfl rfl rfl ?_
  refine gf_X4_34 (q := 4) hc dX4_shapeAll_1 (k_69 hK hrm) rfl ?_
  refine w_ifeq (q := 7) (tgt := 8) hc dX4_shapeAll_4 rfl rfl ?_ ?_
  · refine w_iconst (q := 9) hc dX4_shapeAll_8 ci_0 rfl ?_
    refine w_istore_n (q := 10) (i := 1) (lv' := [(1, .int 0), (0, .ref 69)]) hc dX4_shapeAll_9 rfl (hN 1 rfl) rfl rfl ?_
    refine w_sub [1, 0] rfl ?_
    refine wl_X4_shapeAll_10 rm I hc hq hK hR hn hrm _ ?_ FU 0 L
    intro L_6
    refine w_aload_n (q := 44) (i := 0) (j := 0) hc dX4_shapeAll_43 rfl rfl rfl ?_
    refine w_iconst (q := 45) hc dX4_shapeAll_44 ci_1 rfl ?_
    refine pf_X4_34 (q := 48) hc dX4_shapeAll_45 (k_69 hK hrm) bz_1 rfl (fun I_7 => ?_)
    exact w_return hc hq dX4_shapeAll_48 rfl rfl
  · exact w_return hc hq dX4_shapeAll_7 rfl rfl
set_option maxRecDepth 100000 in
set_option maxHeartbeats 4000000 in
theorem wl_X4_nextCentral_18 {G : GT Int32} (rm : Nat) (a2 : Nat) (v3_3 : Int32) (v4_4 : Int32) (I : MI) (L : ML) (hc : Cx G cX4_nextCentral yX4_nextCentral.cls (some .int) 2 47) (hq : RetQ G anI (meR I L)) (hK : gK G = lK rm) (hR : gR G = lR rm) (hn : gnL G = 7) (hrm : rm ≠ 0) (ha2 : (lK rm)[a2]? = some (11, 6)) (k0 : Int32 → Option Int32) (hk0 : ∀ (v5_11 : Int32), WW G 73 [(0, .ref 69), (2, .ref a2), (3, .int v3_3), (4, .int v4_4), (5, .int v5_11)] [] I L (k0 v5_11)) : ∀ (n : Nat) (v5_5 : Int32) (v6_6 : Int32), WW G 18 [(0, .ref 69), (2, .ref a2), (3, .int v3_3), (4, .int v4_4), (5, .int v5_5), (6, .int v6_6)] [] I L (f_X4_nextCentral_18 rm a2 v3_3 v4_4 I L k0 n v5_5 v6_6) := by
  have hN : ∀ i, Nat.blt i 7 = true → i < gnL G := fun i h => hn ▸ Nat.blt_eq.mp h
  intro n
  induction n with
  | zero => intros; exact w_none _ _ _
  | succ n ih =>
    intros v5_5 v6_6
    rw [f_X4_nextCentral_18]
    refine w_iload (q := 20) (i := 6) (j := 5) hc dX4_nextCentral_18 rfl rfl ?_
    refine w_aload_n (q := 21) (i := 2) (j := 1) hc dX4_nextCentral_20 rfl rfl rfl ?_
    refine w_alenJ (q := 22) hc dX4_nextCentral_21 (kA hK ha2) cn_6 rfl ?_
    refine w_icmpge (q := 25) (tgt := 73) hc dX4_nextCentral_22 rfl rfl ?_ ?_
    · refine w_sub [0, 1, 2, 3, 4] rfl ?_
      exact hk0 v5_5
    · refine w_iload (q := 27) (i := 5) (j := 4) hc dX4_nextCentral_25 rfl rfl ?_
      refine w_ifeq (q := 30) (tgt := 73) hc dX4_nextCentral_27 rfl rfl ?_ ?_
      · refine w_sub [0, 1, 2, 3, 4] rfl ?_
        exact hk0 v5_5
      · refine w_iload_n (q := 31) (i := 3) (j := 2) hc dX4_nextCentral_30 rfl rfl rfl ?_
        refine w_iload (q := 33) (i := 6) (j := 5) hc dX4_nextCentral_31 rfl rfl ?_
        refine w_ishr (q := 34) hc dX4_nextCentral_33  rfl ?_
        refine w_iconst (q := 35) hc dX4_nextCentral_34 ci_1 rfl ?_
        refine w_iand (q := 36) hc dX4_nextCentral_35  rfl ?_
        refine w_ifeq (q := 39) (tgt := 60) hc dX4_nextCentral_36 rfl rfl ?_ ?_
        · refine w_iconst (q := 61) hc dX4_nextCentral_60 ci_1 rfl ?_
          refine w_goto (tgt := 65) hc dX4_nextCentral_61 rfl ?_
          refine w_istore (q := 67) (i := 5) (lv' := [(5, .int 1), (0, .ref 69), (2, .ref a2), (3, .int v3_3), (4, .int v4_4), (6, .int v6_6)]) hc dX4_nextCentral_65 (hN 5 rfl) rfl rfl ?_
          refine w_iincB (q := 70) (i := 6) (j := 5) (lv' := fun v6_7 => [(6, .int v6_7), (5, .int 1), (0, .ref 69), (2, .ref a2), (3, .int v3_3), (4, .int v4_4)]) hc dX4_nextCentral_67 rfl ci_1 (hN 6 rfl) (fun _ => rfl) rfl (fun v6_7 => ?_)
          refine w_goto (tgt := 18) hc dX4_nextCentral_70 rfl ?_
          refine w_sub [2, 3, 4, 5, 1, 0] rfl ?_
          exact ih 1 v6_7
        · refine w_aload_n (q := 40) (i := 0) (j := 0) hc dX4_nextCentral_39 rfl rfl rfl ?_
          refine gf_X4_53 (q := 43) hc dX4_nextCentral_40 (k_69 hK hrm) (r_69_6 hR) rfl ?_
          refine w_iload (q := 45) (i := 4) (j := 3) hc dX4_nextCentral_43 rfl rfl ?_
          refine w_lald (q := 46) hc dX4_nextCentral_45 (k_72 hK hrm) rfl ?_
          refine w_aload_n (q := 47) (i := 2) (j := 1) hc dX4_nextCentral_46 rfl rfl rfl ?_
          refine w_iload (q := 49) (i := 6) (j := 5) hc dX4_nextCentral_47 rfl rfl ?_
          refine w_lald (q := 50) hc dX4_nextCentral_49 (kA hK ha2) rfl ?_
          refine w_aload_n (q := 51) (i := 0) (j := 0) hc dX4_nextCentral_50 rfl rfl rfl ?_
          refine gf_X4_21 (q := 54) hc dX4_nextCentral_51 (k_69 hK hrm) rfl ?_
          refine w_callS_Rz (q := 57) (st := []) (args := [.long (L 72 (ix v4_4)), .long (L a2 (ix v6_6)), .int (I 69 11)]) hc (m_X6_commute hK hR) dX4_nextCentral_54 ml_X4_128 cf_X6_commute st_X6_commute rfl rfl (Nat.le_of_ble_eq_true rfl) ⟨Nat.le_of_ble_eq_true rfl, Nat.le_of_ble_eq_true rfl⟩ rfl (fun q_8 => ?_)
          refine w_ifeq (q := 60) (tgt := 64) hc dX4_nextCentral_57 rfl rfl ?_ ?_
          · refine w_iconst (q := 65) hc dX4_nextCentral_64 ci_0 rfl ?_
            refine w_istore (q := 67) (i := 5) (lv' := [(5, .int 0), (0, .ref 69), (2, .ref a2), (3, .int v3_3), (4, .int v4_4), (6, .int v6_6)]) hc dX4_nextCentral_65 (hN 5 rfl) rfl rfl ?_
            refine w_iincB (q := 70) (i := 6) (j := 5) (lv' := fun v6_9 => [(6, .int v6_9), (5, .int 0), (0, .ref 69), (2, .ref a2), (3, .int v3_3), (4, .int v4_4)]) hc dX4_nextCentral_67 rfl ci_1 (hN 6 rfl) (fun _ => rfl) rfl (fun v6_9 => ?_)
            refine w_goto (tgt := 18) hc dX4_nextCentral_70 rfl ?_
            refine w_sub [2, 3, 4, 5, 1, 0] rfl ?_
            exact ih 0 v6_9
          · refine w_iconst (q := 61) hc dX4_nextCentral_60 ci_1 rfl ?_
            refine w_goto (tgt := 65) hc dX4_nextCentral_61 rfl ?_
            refine w_istore (q := 67) (i := 5) (lv' := [(5, .int 1), (0, .ref 69), (2, .ref a2), (3, .int v3_3), (4, .int v4_4), (6, .int v6_6)]) hc dX4_nextCentral_65 (hN 5 rfl) rfl rfl ?_
            refine w_iincB (q := 70) (i := 6) (j := 5) (lv' := fun v6_10 => [(6, .int v6_10), (5, .int 1), (0, .ref 69), (2, .ref a2), (3, .int v3_3), (4, .int v4_4)]) hc dX4_nextCentral_67 rfl ci_1 (hN 6 rfl) (fun _ => rfl) rfl (fun v6_10 => ?_)
            refine w_goto (tgt := 18) hc dX4_nextCentral_70 rfl ?_
            refine w_sub [2, 3, 4, 5, 1, 0] rfl ?_
            exact ih 1 v6_10
set_option maxRecDepth 100000 in
set_option maxHeartbeats 4000000 in
theorem wl_X4_nextCentral_3 {G : GT Int32} (rm : Nat) (a2 : Nat) (v3_1 : Int32) (I : MI) (L : ML) (hc : Cx G cX4_nextCentral yX4_nextCentral.cls (some .int) 2 47) (hq : RetQ G anI (meR I L)) (hK : gK G = lK rm) (hR : gR G = lR rm) (hn : gnL G = 7) (hrm : rm ≠ 0) (ha2 : (lK rm)[a2]? = some (11, 6)) : ∀ (n : Nat) (v4_2 : Int32), WW G 3 [(0, .ref 69), (2, .ref a2), (3, .int v3_1), (4, .int v4_2)] [] I L (f_X4_nextCentral_3 rm a2 v3_1 I L n v4_2) := by
  have hN : ∀ i, Nat.blt i 7 = true → i < gnL G := fun i h => hn ▸ Nat.blt_eq.mp h
  intro n
  induction n with
  | zero => intros; exact w_none _ _ _
  | succ n ih =>
    intros v4_2
    rw [f_X4_nextCentral_3]
    refine w_iload (q := 5) (i := 4) (j := 3) hc dX4_nextCentral_3 rfl rfl ?_
    refine w_aload_n (q := 6) (i := 0) (j := 0) hc dX4_nextCentral_5 rfl rfl rfl ?_
    refine gf_X4_9 (q := 9) hc dX4_nextCentral_6 (k_69 hK hrm) rfl ?_
    refine w_icmpge (q := 12) (tgt := 87) hc dX4_nextCentral_9 rfl rfl ?_ ?_
    · refine w_iconst (q := 88) hc dX4_nextCentral_87 ci_m1 rfl ?_
      exact w_ireturn (v := (-1)) hc hq dX4_nextCentral_88 rfl rfl rfl
    · refine w_iconst (q := 13) hc dX4_nextCentral_12 ci_1 rfl ?_
      refine w_istore (q := 15) (i := 5) (lv' := [(5, .int 1), (0, .ref 69), (2, .ref a2), (3, .int v3_1), (4, .int v4_2)]) hc dX4_nextCentral_13 (hN 5 rfl) rfl rfl ?_
      refine w_iconst (q := 16) hc dX4_nextCentral_15 ci_0 rfl ?_
      refine w_istore (q := 18) (i := 6) (lv' := [(6, .int 0), (5, .int 1), (0, .ref 69), (2, .ref a2), (3, .int v3_1), (4, .int v4_2)]) hc dX4_nextCentral_16 (hN 6 rfl) rfl rfl ?_
      refine w_sub [2, 3, 4, 5, 1, 0] rfl ?_
      refine wl_X4_nextCentral_18 rm a2 v3_1 v4_2 I L hc hq hK hR hn hrm ha2 _ ?_ FU 1 0
      intro v5_11
      refine w_iload (q := 75) (i := 5) (j := 4) hc dX4_nextCentral_73 rfl rfl ?_
      refine w_ifeq (q := 78) (tgt := 81) hc dX4_nextCentral_75 rfl rfl ?_ ?_
      · refine w_iincB (q := 84) (i := 4) (j := 3) (lv' := fun v4_12 => [(4, .int v4_12), (0, .ref 69), (2, .ref a2), (3, .int v3_1), (5, .int v5_11)]) hc dX4_nextCentral_81 rfl ci_1 (hN 4 rfl) (fun _ => rfl) rfl (fun v4_12 => ?_)
        refine w_goto (tgt := 3) hc dX4_nextCentral_84 rfl ?_
        refine w_sub [1, 2, 3, 0] rfl ?_
        exact ih v4_12
      · refine w_iload (q := 80) (i := 4) (j := 3) hc dX4_nextCentral_78 rfl rfl ?_
        exact w_ireturn (v := v4_2) hc hq dX4_nextCentral_80 rfl rfl rfl
set_option maxRecDepth 100000 in
set_option maxHeartbeats 4000000 in
theorem m_X4_nextCentral {l : Launch} {K : KT} {R : MR} {rm : Nat} {a1 : Int32} {a2 : Nat} {a3 : Int32} {I : MI} {L : ML} (hK0 : K = lK rm) (hR0 : R = lR rm) (hrm : rm ≠ 0) (ha2 : (lK rm)[a2]? = some (11, 6)) : MFg l yX4_nextCentral cX4_nextCentral 7 (some .int) 2 47 [.ref 69, .int a1, .ref a2, .int a3] K R I L anI (meR I L) (f_X4_nextCentral rm a1 a2 a3 I L) := by
  refine mf_of (plainFor_of_name (by decide)) (Nat.le_of_ble_eq_true rfl) ?_
  intro G hc _ hK1 hR1 hn hq
  have hK := hK1.trans hK0
  have hR := hR1.trans hR0
  have hN : ∀ i, Nat.blt i 7 = true → i < gnL G := fun i h => hn ▸ Nat.blt_eq.mp h
  unfold f_X4_nextCentral
  show WW G 0 [(0, .ref 69), (1, .int a1), (2, .ref a2), (3, .int a3)] [] I L _
  refine w_iload_n (q := 1) (i := 1) (j := 1) hc dX4_nextCentral_0 rfl rfl rfl ?_
  refine w_istore (q := 3) (i := 4) (lv' := [(4, .int a1), (0, .ref 69), (1, .int a1), (2, .ref a2), (3, .int a3)]) hc dX4_nextCentral_1 (hN 4 rfl) rfl rfl ?_
  refine w_sub [1, 3, 4, 0] rfl ?_
  exact wl_X4_nextCentral_3 rm a2 a3 I L hc hq hK hR hn hrm ha2 FU a1
set_option maxRecDepth 100000 in
set_option maxHeartbeats 4000000 in
theorem m_X4_turnAt {l : Launch} {K : KT} {R : MR} {rm : Nat} {a1 : Int32} {I : MI} {L : ML} (hK0 : K = lK rm) (hR0 : R = lR rm) (hrm : rm ≠ 0) : MFg l yX4_turnAt cX4_turnAt 2 (some .long) 0 0 [.ref 69, .int a1] K R I L anL (meR I L) (f_X4_turnAt rm a1 I L) := by
  refine mf_of (plainFor_of_name (by decide)) (Nat.le_of_ble_eq_true rfl) ?_
  intro G hc _ hK1 hR1 hn hq
  have hK := hK1.trans hK0
  have hR := hR1.trans hR0
  have hN : ∀ i, Nat.blt i 2 = true → i < gnL G := fun i h => hn ▸ Nat.blt_eq.mp h
  unfold f_X4_turnAt
  show WW G 0 [(0, .ref 69), (1, .int a1)] [] I L _
  refine w_iload_n (q := 1) (i := 1) (j := 1) hc dX4_turnAt_0 rfl rfl rfl ?_
  refine w_iflt (q := 4) (tgt := 21) hc dX4_turnAt_1 rfl rfl ?_ ?_
  · refine w_ldc2 (q := 24) hc dX4_turnAt_21 kl_X4_108 rfl ?_
    exact w_lreturn hc hq dX4_turnAt_24 rfl rfl
  · refine w_iload_n (q := 5) (i := 1) (j := 1) hc dX4_turnAt_4 rfl rfl rfl ?_
    refine w_aload_n (q := 6) (i := 0) (j := 0) hc dX4_turnAt_5 rfl rfl rfl ?_
    refine gf_X4_9 (q := 9) hc dX4_turnAt_6 (k_69 hK hrm) rfl ?_
    refine w_icmpge (q := 12) (tgt := 21) hc dX4_turnAt_9 rfl rfl ?_ ?_
    · refine w_ldc2 (q := 24) hc dX4_turnAt_21 kl_X4_108 rfl ?_
      exact w_lreturn hc hq dX4_turnAt_24 rfl rfl
    · refine w_aload_n (q := 13) (i := 0) (j := 0) hc dX4_turnAt_12 rfl rfl rfl ?_
      refine gf_X4_53 (q := 16) hc dX4_turnAt_13 (k_69 hK hrm) (r_69_6 hR) rfl ?_
      refine w_iload_n (q := 17) (i := 1) (j := 1) hc dX4_turnAt_16 rfl rfl rfl ?_
      refine w_lald (q := 18) hc dX4_turnAt_17 (k_72 hK hrm) rfl ?_
      refine w_goto (tgt := 24) hc dX4_turnAt_18 rfl ?_
      exact w_lreturn hc hq dX4_turnAt_24 rfl rfl
set_option maxRecDepth 100000 in
set_option maxHeartbeats 4000000 in
theorem wl_X4_countDeep_4 {G : GT Int32} (rm : Nat) (v1_1 : Int32) (I : MI) (L : ML) (hc : Cx G cX4_countDeep yX4_countDeep.cls (some .int) 0 0) (hq : RetQ G anI (meR I L)) (hK : gK G = lK rm) (hR : gR G = lR rm) (hn : gnL G = 4) (hrm : rm ≠ 0) : ∀ (n : Nat) (v2_2 : Int32) (v3_3 : Int32), WW G 4 [(0, .ref 69), (1, .int v1_1), (2, .int v2_2), (3, .int v3_3)] [] I L (f_X4_countDeep_4 rm v1_1 I L n v2_2 v3_3) := by
  have hN : ∀ i, Nat.blt i 4 = true → i < gnL G := fun i h => hn ▸ Nat.blt_eq.mp h
  intro n
  induction n with
  | zero => intros; exact w_none _ _ _
  | succ n ih =>
    intros v2_2 v3_3
    rw [f_X4_countDeep_4]
    refine w_iload_n (q := 5) (i := 3) (j := 3) hc dX4_countDeep_4 rfl rfl rfl ?_
    refine w_aload_n (q := 6) (i := 0) (j := 0) hc dX4_countDeep_5 rfl rfl rfl ?_
    refine gf_X4_9 (q := 9) hc dX4_countDeep_6 (k_69 hK hrm) rfl ?_
    refine w_icmpge (q := 12) (tgt := 31) hc dX4_countDeep_9 rfl rfl ?_ ?_
    · refine w_iload_n (q := 32) (i := 2) (j := 2) hc dX4_countDeep_31 rfl rfl rfl ?_
      exact w_ireturn (v := v2_2) hc hq dX4_countDeep_32 rfl rfl rfl
    · refine w_aload_n (q := 13) (i := 0) (j := 0) hc dX4_countDeep_12 rfl rfl rfl ?_
      refine gf_X4_46 (q := 16) hc dX4_countDeep_13 (k_69 hK hrm) (r_69_4 hR) rfl ?_
      refine w_iload_n (q := 17) (i := 3) (j := 3) hc dX4_countDeep_16 rfl rfl rfl ?_
      refine w_iald (q := 18) hc dX4_countDeep_17 (k_70 hK hrm) rfl ?_
      refine w_iload_n (q := 19) (i := 1) (j := 1) hc dX4_countDeep_18 rfl rfl rfl ?_
      refine w_icmpne (q := 22) (tgt := 25) hc dX4_countDeep_19 rfl rfl ?_ ?_
      · refine w_iincB (q := 25) (i := 2) (j := 2) (lv' := fun v2_5 => [(2, .int v2_5), (0, .ref 69), (1, .int v1_1), (3, .int v3_3)]) hc dX4_countDeep_22 rfl ci_1 (hN 2 rfl) (fun _ => rfl) rfl (fun v2_5 => ?_)
        refine w_iincB (q := 28) (i := 3) (j := 3) (lv' := fun v3_6 => [(3, .int v3_6), (2, .int v2_5), (0, .ref 69), (1, .int v1_1)]) hc dX4_countDeep_25 rfl ci_1 (hN 3 rfl) (fun _ => rfl) rfl (fun v3_6 => ?_)
        refine w_goto (tgt := 4) hc dX4_countDeep_28 rfl ?_
        refine w_sub [2, 3, 1, 0] rfl ?_
        exact ih v2_5 v3_6
      · refine w_iincB (q := 28) (i := 3) (j := 3) (lv' := fun v3_4 => [(3, .int v3_4), (0, .ref 69), (1, .int v1_1), (2, .int v2_2)]) hc dX4_countDeep_25 rfl ci_1 (hN 3 rfl) (fun _ => rfl) rfl (fun v3_4 => ?_)
        refine w_goto (tgt := 4) hc dX4_countDeep_28 rfl ?_
        refine w_sub [1, 2, 3, 0] rfl ?_
        exact ih v2_2 v3_4
set_option maxRecDepth 100000 in
set_option maxHeartbeats 4000000 in
theorem m_X4_countDeep {l : Launch} {K : KT} {R : MR} {rm : Nat} {a1 : Int32} {I : MI} {L : ML} (hK0 : K = lK rm) (hR0 : R = lR rm) (hrm : rm ≠ 0) : MFg l yX4_countDeep cX4_countDeep 4 (some .int) 0 0 [.ref 69, .int a1] K R I L anI (meR I L) (f_X4_countDeep rm a1 I L) := by
  refine mf_of (plainFor_of_name (by decide)) (Nat.le_of_ble_eq_true rfl) ?_
  intro G hc _ hK1 hR1 hn hq
  have hK := hK1.trans hK0
  have hR := hR1.trans hR0
  have hN : ∀ i, Nat.blt i 4 = true → i < gnL G := fun i h => hn ▸ Nat.blt_eq.mp h
  unfold f_X4_countDeep
  show WW G 0 [(0, .ref 69), (1, .int a1)] [] I L _
  refine w_iconst (q := 1) hc dX4_countDeep_0 ci_0 rfl ?_
  refine w_istore_n (q := 2) (i := 2) (lv' := [(2, .int 0), (0, .ref 69), (1, .int a1)]) hc dX4_countDeep_1 rfl (hN 2 rfl) rfl rfl ?_
  refine w_iconst (q := 3) hc dX4_countDeep_2 ci_0 rfl ?_
  refine w_istore_n (q := 4) (i := 3) (lv' := [(3, .int 0), (2, .int 0), (0, .ref 69), (1, .int a1)]) hc dX4_countDeep_3 rfl (hN 3 rfl) rfl rfl ?_
  refine w_sub [2, 3, 1, 0] rfl ?_
  exact wl_X4_countDeep_4 rm a1 I L hc hq hK hR hn hrm FU 0 0
set_option maxRecDepth 100000 in
set_option maxHeartbeats 4000000 in
theorem wl_X4_firstDeep_2 {G : GT Int32} (rm : Nat) (v1_1 : Int32) (I : MI) (L : ML) (hc : Cx G cX4_firstDeep yX4_firstDeep.cls (some .int) 0 0) (hq : RetQ G anI (meR I L)) (hK : gK G = lK rm) (hR : gR G = lR rm) (hn : gnL G = 3) (hrm : rm ≠ 0) : ∀ (n : Nat) (v2_2 : Int32), WW G 2 [(0, .ref 69), (1, .int v1_1), (2, .int v2_2)] [] I L (f_X4_firstDeep_2 rm v1_1 I L n v2_2) := by
  have hN : ∀ i, Nat.blt i 3 = true → i < gnL G := fun i h => hn ▸ Nat.blt_eq.mp h
  intro n
  induction n with
  | zero => intros; exact w_none _ _ _
  | succ n ih =>
    intros v2_2
    rw [f_X4_firstDeep_2]
    refine w_iload_n (q := 3) (i := 2) (j := 2) hc dX4_firstDeep_2 rfl rfl rfl ?_
    refine w_aload_n (q := 4) (i := 0) (j := 0) hc dX4_firstDeep_3 rfl rfl rfl ?_
    refine gf_X4_9 (q := 7) hc dX4_firstDeep_4 (k_69 hK hrm) rfl ?_
    refine w_icmpge (q := 10) (tgt := 28) hc dX4_firstDeep_7 rfl rfl ?_ ?_
    · refine w_iconst (q := 29) hc dX4_firstDeep_28 ci_m1 rfl ?_
      exact w_ireturn (v := (-1)) hc hq dX4_firstDeep_29 rfl rfl rfl
    · refine w_aload_n (q := 11) (i := 0) (j := 0) hc dX4_firstDeep_10 rfl rfl rfl ?_
      refine gf_X4_46 (q := 14) hc dX4_firstDeep_11 (k_69 hK hrm) (r_69_4 hR) rfl ?_
      refine w_iload_n (q := 15) (i := 2) (j := 2) hc dX4_firstDeep_14 rfl rfl rfl ?_
      refine w_iald (q := 16) hc dX4_firstDeep_15 (k_70 hK hrm) rfl ?_
      refine w_iload_n (q := 17) (i := 1) (j := 1) hc dX4_firstDeep_16 rfl rfl rfl ?_
      refine w_icmpne (q := 20) (tgt := 22) hc dX4_firstDeep_17 rfl rfl ?_ ?_
      · refine w_iload_n (q := 21) (i := 2) (j := 2) hc dX4_firstDeep_20 rfl rfl rfl ?_
        exact w_ireturn (v := v2_2) hc hq dX4_firstDeep_21 rfl rfl rfl
      · refine w_iincB (q := 25) (i := 2) (j := 2) (lv' := fun v2_3 => [(2, .int v2_3), (0, .ref 69), (1, .int v1_1)]) hc dX4_firstDeep_22 rfl ci_1 (hN 2 rfl) (fun _ => rfl) rfl (fun v2_3 => ?_)
        refine w_goto (tgt := 2) hc dX4_firstDeep_25 rfl ?_
        refine w_sub [1, 2, 0] rfl ?_
        exact ih v2_3
set_option maxRecDepth 100000 in
set_option maxHeartbeats 4000000 in
theorem m_X4_firstDeep {l : Launch} {K : KT} {R : MR} {rm : Nat} {a1 : Int32} {I : MI} {L : ML} (hK0 : K = lK rm) (hR0 : R = lR rm) (hrm : rm ≠ 0) : MFg l yX4_firstDeep cX4_firstDeep 3 (some .int) 0 0 [.ref 69, .int a1] K R I L anI (meR I L) (f_X4_firstDeep rm a1 I L) := by
  refine mf_of (plainFor_of_name (by decide)) (Nat.le_of_ble_eq_true rfl) ?_
  intro G hc _ hK1 hR1 hn hq
  have hK := hK1.trans hK0
  have hR := hR1.trans hR0
  have hN : ∀ i, Nat.blt i 3 = true → i < gnL G := fun i h => hn ▸ Nat.blt_eq.mp h
  unfold f_X4_firstDeep
  show WW G 0 [(0, .ref 69), (1, .int a1)] [] I L _
  refine w_iconst (q := 1) hc dX4_firstDeep_0 ci_0 rfl ?_
  refine w_istore_n (q := 2) (i := 2) (lv' := [(2, .int 0), (0, .ref 69), (1, .int a1)]) hc dX4_firstDeep_1 rfl (hN 2 rfl) rfl rfl ?_
  refine w_sub [1, 2, 0] rfl ?_
  exact wl_X4_firstDeep_2 rm a1 I L hc hq hK hR hn hrm FU 0
set_option maxRecDepth 100000 in
set_option maxHeartbeats 4000000 in
theorem wl_X4_sumOfDepths_4 {G : GT Int32} (rm : Nat) (I : MI) (L : ML) (hc : Cx G cX4_sumOfDepths yX4_sumOfDepths.cls (some .int) 0 0) (hq : RetQ G anI (meR I L)) (hK : gK G = lK rm) (hR : gR G = lR rm) (hn : gnL G = 3) (hrm : rm ≠ 0) : ∀ (n : Nat) (v1_1 : Int32) (v2_2 : Int32), WW G 4 [(0, .ref 69), (1, .int v1_1), (2, .int v2_2)] [] I L (f_X4_sumOfDepths_4 rm I L n v1_1 v2_2) := by
  have hN : ∀ i, Nat.blt i 3 = true → i < gnL G := fun i h => hn ▸ Nat.blt_eq.mp h
  intro n
  induction n with
  | zero => intros; exact w_none _ _ _
  | succ n ih =>
    intros v1_1 v2_2
    rw [f_X4_sumOfDepths_4]
    refine w_iload_n (q := 5) (i := 2) (j := 2) hc dX4_sumOfDepths_4 rfl rfl rfl ?_
    refine w_aload_n (q := 6) (i := 0) (j := 0) hc dX4_sumOfDepths_5 rfl rfl rfl ?_
    refine gf_X4_9 (q := 9) hc dX4_sumOfDepths_6 (k_69 hK hrm) rfl ?_
    refine w_icmpge (q := 12) (tgt := 27) hc dX4_sumOfDepths_9 rfl rfl ?_ ?_
    · refine w_iload_n (q := 28) (i := 1) (j := 1) hc dX4_sumOfDepths_27 rfl rfl rfl ?_
      exact w_ireturn (v := v1_1) hc hq dX4_sumOfDepths_28 rfl rfl rfl
    · refine w_iload_n (q := 13) (i := 1) (j := 1) hc dX4_sumOfDepths_12 rfl rfl rfl ?_
      refine w_aload_n (q := 14) (i := 0) (j := 0) hc dX4_sumOfDepths_13 rfl rfl rfl ?_
      refine gf_X4_46 (q := 17) hc dX4_sumOfDepths_14 (k_69 hK hrm) (r_69_4 hR) rfl ?_
      refine w_iload_n (q := 18) (i := 2) (j := 2) hc dX4_sumOfDepths_17 rfl rfl rfl ?_
      refine w_iald (q := 19) hc dX4_sumOfDepths_18 (k_70 hK hrm) rfl ?_
      refine w_iadd (q := 20) hc dX4_sumOfDepths_19  rfl ?_
      refine w_istore_nB (q := 21) (i := 1) (lv' := fun v1_3 => [(1, .int v1_3), (0, .ref 69), (2, .int v2_2)]) hc dX4_sumOfDepths_20 rfl (hN 1 rfl) (fun _ => rfl) rfl (fun v1_3 => ?_)
      refine w_iincB (q := 24) (i := 2) (j := 2) (lv' := fun v2_4 => [(2, .int v2_4), (1, .int v1_3), (0, .ref 69)]) hc dX4_sumOfDepths_21 rfl ci_1 (hN 2 rfl) (fun _ => rfl) rfl (fun v2_4 => ?_)
      refine w_goto (tgt := 4) hc dX4_sumOfDepths_24 rfl ?_
      refine w_sub [2, 1, 0] rfl ?_
      exact ih v1_3 v2_4
set_option maxRecDepth 100000 in
set_option maxHeartbeats 4000000 in
theorem m_X4_sumOfDepths {l : Launch} {K : KT} {R : MR} {rm : Nat} {I : MI} {L : ML} (hK0 : K = lK rm) (hR0 : R = lR rm) (hrm : rm ≠ 0) : MFg l yX4_sumOfDepths cX4_sumOfDepths 3 (some .int) 0 0 [.ref 69] K R I L anI (meR I L) (f_X4_sumOfDepths rm I L) := by
  refine mf_of (plainFor_of_name (by decide)) (Nat.le_of_ble_eq_true rfl) ?_
  intro G hc _ hK1 hR1 hn hq
  have hK := hK1.trans hK0
  have hR := hR1.trans hR0
  have hN : ∀ i, Nat.blt i 3 = true → i < gnL G := fun i h => hn ▸ Nat.blt_eq.mp h
  unfold f_X4_sumOfDepths
  show WW G 0 [(0, .ref 69)] [] I L _
  refine w_iconst (q := 1) hc dX4_sumOfDepths_0 ci_0 rfl ?_
  refine w_istore_n (q := 2) (i := 1) (lv' := [(1, .int 0), (0, .ref 69)]) hc dX4_sumOfDepths_1 rfl (hN 1 rfl) rfl rfl ?_
  refine w_iconst (q := 3) hc dX4_sumOfDepths_2 ci_0 rfl ?_
  refine w_istore_n (q := 4) (i := 2) (lv' := [(2, .int 0), (1, .int 0), (0, .ref 69)]) hc dX4_sumOfDepths_3 rfl (hN 2 rfl) rfl rfl ?_
  refine w_sub [2, 1, 0] rfl ?_
  exact wl_X4_sumOfDepths_4 rm I L hc hq hK hR hn hrm FU 0 0
set_option maxRecDepth 100000 in
set_option maxHeartbeats 4000000 in
theorem wl_X4_stepsCloser_4 {G : GT Int32} (rm : Nat) (v1_1 : Int32) (I : MI) (L : ML) (hc : Cx G cX4_stepsCloser yX4_stepsCloser.cls (some .int) 0 0) (hq : RetQ G anI (meR I L)) (hK : gK G = lK rm) (hR : gR G = lR rm) (hn : gnL G = 4) (hrm : rm ≠ 0) : ∀ (n : Nat) (v2_2 : Int32) (v3_3 : Int32), WW G 4 [(0, .ref 69), (1, .int v1_1), (2, .int v2_2), (3, .int v3_3)] [] I L (f_X4_stepsCloser_4 rm v1_1 I L n v2_2 v3_3) := by
  have hN : ∀ i, Nat.blt i 4 = true → i < gnL G := fun i h => hn ▸ Nat.blt_eq.mp h
  intro n
  induction n with
  | zero => intros; exact w_none _ _ _
  | succ n ih =>
    intros v2_2 v3_3
    rw [f_X4_stepsCloser_4]
    refine w_iload_n (q := 5) (i := 3) (j := 3) hc dX4_stepsCloser_4 rfl rfl rfl ?_
    refine w_aload_n (q := 6) (i := 0) (j := 0) hc dX4_stepsCloser_5 rfl rfl rfl ?_
    refine gf_X4_24 (q := 9) hc dX4_stepsCloser_6 (k_69 hK hrm) rfl ?_
    refine w_icmpge (q := 12) (tgt := 46) hc dX4_stepsCloser_9 rfl rfl ?_ ?_
    · refine w_iload_n (q := 47) (i := 2) (j := 2) hc dX4_stepsCloser_46 rfl rfl rfl ?_
      exact w_ireturn (v := v2_2) hc hq dX4_stepsCloser_47 rfl rfl rfl
    · refine w_aload_n (q := 13) (i := 0) (j := 0) hc dX4_stepsCloser_12 rfl rfl rfl ?_
      refine gf_X4_46 (q := 16) hc dX4_stepsCloser_13 (k_69 hK hrm) (r_69_4 hR) rfl ?_
      refine w_aload_n (q := 17) (i := 0) (j := 0) hc dX4_stepsCloser_16 rfl rfl rfl ?_
      refine gf_X4_68 (q := 20) hc dX4_stepsCloser_17 (k_69 hK hrm) (r_69_10 hR) rfl ?_
      refine w_iload_n (q := 21) (i := 3) (j := 3) hc dX4_stepsCloser_20 rfl rfl rfl ?_
      refine w_aald (q := 22) hc dX4_stepsCloser_21 (k_76 hK hrm) (fun h => r_row hR (ix_lt h)) rfl (fun hrow_4 => ?_)
      refine w_iload_n (q := 23) (i := 1) (j := 1) hc dX4_stepsCloser_22 rfl rfl rfl ?_
      refine w_iald (q := 24) hc dX4_stepsCloser_23 (k_row hK hrm (ix_lt hrow_4)) rfl ?_
      refine w_iald (q := 25) hc dX4_stepsCloser_24 (k_70 hK hrm) rfl ?_
      refine w_aload_n (q := 26) (i := 0) (j := 0) hc dX4_stepsCloser_25 rfl rfl rfl ?_
      refine gf_X4_46 (q := 29) hc dX4_stepsCloser_26 (k_69 hK hrm) (r_69_4 hR) rfl ?_
      refine w_iload_n (q := 30) (i := 1) (j := 1) hc dX4_stepsCloser_29 rfl rfl rfl ?_
      refine w_iald (q := 31) hc dX4_stepsCloser_30 (k_70 hK hrm) rfl ?_
      refine w_icmpge (q := 34) (tgt := 40) hc dX4_stepsCloser_31 rfl rfl ?_ ?_
      · refine w_iincB (q := 43) (i := 3) (j := 3) (lv' := fun v3_5 => [(3, .int v3_5), (0, .ref 69), (1, .int v1_1), (2, .int v2_2)]) hc dX4_stepsCloser_40 rfl ci_1 (hN 3 rfl) (fun _ => rfl) rfl (fun v3_5 => ?_)
        refine w_goto (tgt := 4) hc dX4_stepsCloser_43 rfl ?_
        refine w_sub [1, 2, 3, 0] rfl ?_
        exact ih v2_2 v3_5
      · refine w_iload_n (q := 35) (i := 2) (j := 2) hc dX4_stepsCloser_34 rfl rfl rfl ?_
        refine w_iconst (q := 36) hc dX4_stepsCloser_35 ci_1 rfl ?_
        refine w_iload_n (q := 37) (i := 3) (j := 3) hc dX4_stepsCloser_36 rfl rfl rfl ?_
        refine w_ishl (q := 38) hc dX4_stepsCloser_37  rfl ?_
        refine w_ior (q := 39) hc dX4_stepsCloser_38  rfl ?_
        refine w_istore_nB (q := 40) (i := 2) (lv' := fun v2_6 => [(2, .int v2_6), (0, .ref 69), (1, .int v1_1), (3, .int v3_3)]) hc dX4_stepsCloser_39 rfl (hN 2 rfl) (fun _ => rfl) rfl (fun v2_6 => ?_)
        refine w_iincB (q := 43) (i := 3) (j := 3) (lv' := fun v3_7 => [(3, .int v3_7), (2, .int v2_6), (0, .ref 69), (1, .int v1_1)]) hc dX4_stepsCloser_40 rfl ci_1 (hN 3 rfl) (fun _ => rfl) rfl (fun v3_7 => ?_)
        refine w_goto (tgt := 4) hc dX4_stepsCloser_43 rfl ?_
        refine w_sub [2, 3, 1, 0] rfl ?_
        exact ih v2_6 v3_7
set_option maxRecDepth 100000 in
set_option maxHeartbeats 4000000 in
theorem m_X4_stepsCloser {l : Launch} {K : KT} {R : MR} {rm : Nat} {a1 : Int32} {I : MI} {L : ML} (hK0 : K = lK rm) (hR0 : R = lR rm) (hrm : rm ≠ 0) : MFg l yX4_stepsCloser cX4_stepsCloser 4 (some .int) 0 0 [.ref 69, .int a1] K R I L anI (meR I L) (f_X4_stepsCloser rm a1 I L) := by
  refine mf_of (plainFor_of_name (by decide)) (Nat.le_of_ble_eq_true rfl) ?_
  intro G hc _ hK1 hR1 hn hq
  have hK := hK1.trans hK0
  have hR := hR1.trans hR0
  have hN : ∀ i, Nat.blt i 4 = true → i < gnL G := fun i h => hn ▸ Nat.blt_eq.mp h
  unfold f_X4_stepsCloser
  show WW G 0 [(0, .ref 69), (1, .int a1)] [] I L _
  refine w_iconst (q := 1) hc dX4_stepsCloser_0 ci_0 rfl ?_
  refine w_istore_n (q := 2) (i := 2) (lv' := [(2, .int 0), (0, .ref 69), (1, .int a1)]) hc dX4_stepsCloser_1 rfl (hN 2 rfl) rfl rfl ?_
  refine w_iconst (q := 3) hc dX4_stepsCloser_2 ci_0 rfl ?_
  refine w_istore_n (q := 4) (i := 3) (lv' := [(3, .int 0), (2, .int 0), (0, .ref 69), (1, .int a1)]) hc dX4_stepsCloser_3 rfl (hN 3 rfl) rfl rfl ?_
  refine w_sub [2, 3, 1, 0] rfl ?_
  exact wl_X4_stepsCloser_4 rm a1 I L hc hq hK hR hn hrm FU 0 0
set_option maxRecDepth 100000 in
set_option maxHeartbeats 4000000 in
theorem wl_X4_stepOfWay_12 {G : GT Int32} (rm : Nat) (v2_2 : Int32) (I : MI) (L : ML) (hc : Cx G cX4_stepOfWay yX4_stepOfWay.cls (some .int) 0 0) (hq : RetQ G anI (meR I L)) (hK : gK G = lK rm) (hR : gR G = lR rm) (hn : gnL G = 5) (hrm : rm ≠ 0) (k0 : Int32 → Option Int32) (hk0 : ∀ (v3_8 : Int32), WW G 40 [(0, .ref 69), (3, .int v3_8)] [] I L (k0 v3_8)) : ∀ (n : Nat) (v3_3 : Int32) (v4_4 : Int32), WW G 12 [(0, .ref 69), (2, .int v2_2), (3, .int v3_3), (4, .int v4_4)] [] I L (f_X4_stepOfWay_12 rm v2_2 I L k0 n v3_3 v4_4) := by
  have hN : ∀ i, Nat.blt i 5 = true → i < gnL G := fun i h => hn ▸ Nat.blt_eq.mp h
  intro n
  induction n with
  | zero => intros; exact w_none _ _ _
  | succ n ih =>
    intros v3_3 v4_4
    rw [f_X4_stepOfWay_12]
    refine w_iload (q := 14) (i := 4) (j := 3) hc dX4_stepOfWay_12 rfl rfl ?_
    refine w_iload_n (q := 15) (i := 2) (j := 1) hc dX4_stepOfWay_14 rfl rfl rfl ?_
    refine w_icmple (q := 18) (tgt := 40) hc dX4_stepOfWay_15 rfl rfl ?_ ?_
    · refine w_sub [0, 2] rfl ?_
      exact hk0 v3_3
    · refine w_aload_n (q := 19) (i := 0) (j := 0) hc dX4_stepOfWay_18 rfl rfl rfl ?_
      refine gf_X4_68 (q := 22) hc dX4_stepOfWay_19 (k_69 hK hrm) (r_69_10 hR) rfl ?_
      refine w_aload_n (q := 23) (i := 0) (j := 0) hc dX4_stepOfWay_22 rfl rfl rfl ?_
      refine gf_X4_60 (q := 26) hc dX4_stepOfWay_23 (k_69 hK hrm) (r_69_8 hR) rfl ?_
      refine w_iload_n (q := 27) (i := 3) (j := 2) hc dX4_stepOfWay_26 rfl rfl rfl ?_
      refine w_iald (q := 28) hc dX4_stepOfWay_27 (k_74 hK hrm) rfl ?_
      refine w_iconst (q := 29) hc dX4_stepOfWay_28 ci_1 rfl ?_
      refine w_ixor (q := 30) hc dX4_stepOfWay_29  rfl ?_
      refine w_aald (q := 31) hc dX4_stepOfWay_30 (k_76 hK hrm) (fun h => r_row hR (ix_lt h)) rfl (fun hrow_5 => ?_)
      refine w_iload_n (q := 32) (i := 3) (j := 2) hc dX4_stepOfWay_31 rfl rfl rfl ?_
      refine w_iald (q := 33) hc dX4_stepOfWay_32 (k_row hK hrm (ix_lt hrow_5)) rfl ?_
      refine w_istore_nB (q := 34) (i := 3) (lv' := fun v3_6 => [(3, .int v3_6), (0, .ref 69), (2, .int v2_2), (4, .int v4_4)]) hc dX4_stepOfWay_33 rfl (hN 3 rfl) (fun _ => rfl) rfl (fun v3_6 => ?_)
      refine w_iincB (q := 37) (i := 4) (j := 3) (lv' := fun v4_7 => [(4, .int v4_7), (3, .int v3_6), (0, .ref 69), (2, .int v2_2)]) hc dX4_stepOfWay_34 rfl ci_m1 (hN 4 rfl) (fun _ => rfl) rfl (fun v4_7 => ?_)
      refine w_goto (tgt := 12) hc dX4_stepOfWay_37 rfl ?_
      refine w_sub [2, 3, 1, 0] rfl ?_
      exact ih v3_6 v4_7
set_option maxRecDepth 100000 in
set_option maxHeartbeats 4000000 in
theorem m_X4_stepOfWay {l : Launch} {K : KT} {R : MR} {rm : Nat} {a1 : Int32} {a2 : Int32} {I : MI} {L : ML} (hK0 : K = lK rm) (hR0 : R = lR rm) (hrm : rm ≠ 0) : MFg l yX4_stepOfWay cX4_stepOfWay 5 (some .int) 0 0 [.ref 69, .int a1, .int a2] K R I L anI (meR I L) (f_X4_stepOfWay rm a1 a2 I L) := by
  refine mf_of (plainFor_of_name (by decide)) (Nat.le_of_ble_eq_true rfl) ?_
  intro G hc _ hK1 hR1 hn hq
  have hK := hK1.trans hK0
  have hR := hR1.trans hR0
  have hN : ∀ i, Nat.blt i 5 = true → i < gnL G := fun i h => hn ▸ Nat.blt_eq.mp h
  unfold f_X4_stepOfWay
  show WW G 0 [(0, .ref 69), (1, .int a1), (2, .int a2)] [] I L _
  refine w_iload_n (q := 1) (i := 1) (j := 1) hc dX4_stepOfWay_0 rfl rfl rfl ?_
  refine w_istore_n (q := 2) (i := 3) (lv' := [(3, .int a1), (0, .ref 69), (1, .int a1), (2, .int a2)]) hc dX4_stepOfWay_1 rfl (hN 3 rfl) rfl rfl ?_
  refine w_aload_n (q := 3) (i := 0) (j := 1) hc dX4_stepOfWay_2 rfl rfl rfl ?_
  refine gf_X4_46 (q := 6) hc dX4_stepOfWay_3 (k_69 hK hrm) (r_69_4 hR) rfl ?_
  refine w_iload_n (q := 7) (i := 1) (j := 2) hc dX4_stepOfWay_6 rfl rfl rfl ?_
  refine w_iald (q := 8) hc dX4_stepOfWay_7 (k_70 hK hrm) rfl ?_
  refine w_iconst (q := 9) hc dX4_stepOfWay_8 ci_1 rfl ?_
  refine w_isub (q := 10) hc dX4_stepOfWay_9  rfl ?_
  refine w_istoreB (q := 12) (i := 4) (lv' := fun v4_1 => [(4, .int v4_1), (3, .int a1), (0, .ref 69), (1, .int a1), (2, .int a2)]) hc dX4_stepOfWay_10 (hN 4 rfl) (fun _ => rfl) rfl (fun v4_1 => ?_)
  refine w_sub [2, 4, 1, 0] rfl ?_
  refine wl_X4_stepOfWay_12 rm a2 I L hc hq hK hR hn hrm _ ?_ FU a1 v4_1
  intro v3_8
  refine w_aload_n (q := 41) (i := 0) (j := 0) hc dX4_stepOfWay_40 rfl rfl rfl ?_
  refine gf_X4_60 (q := 44) hc dX4_stepOfWay_41 (k_69 hK hrm) (r_69_8 hR) rfl ?_
  refine w_iload_n (q := 45) (i := 3) (j := 1) hc dX4_stepOfWay_44 rfl rfl rfl ?_
  refine w_iald (q := 46) hc dX4_stepOfWay_45 (k_74 hK hrm) rfl ?_
  exact w_ireturn (v := (I 74 (ix v3_8))) hc hq dX4_stepOfWay_46 rfl rfl rfl
set_option maxRecDepth 100000 in
set_option maxHeartbeats 4000000 in
theorem wl_X4_countKin_4 {G : GT Int32} (rm : Nat) (v1_1 : Int32) (I : MI) (L : ML) (hc : Cx G cX4_countKin yX4_countKin.cls (some .int) 0 0) (hq : RetQ G anI (meR I L)) (hK : gK G = lK rm) (hR : gR G = lR rm) (hn : gnL G = 4) (hrm : rm ≠ 0) : ∀ (n : Nat) (v2_2 : Int32) (v3_3 : Int32), WW G 4 [(0, .ref 69), (1, .int v1_1), (2, .int v2_2), (3, .int v3_3)] [] I L (f_X4_countKin_4 rm v1_1 I L n v2_2 v3_3) := by
  have hN : ∀ i, Nat.blt i 4 = true → i < gnL G := fun i h => hn ▸ Nat.blt_eq.mp h
  intro n
  induction n with
  | zero => intros; exact w_none _ _ _
  | succ n ih =>
    intros v2_2 v3_3
    rw [f_X4_countKin_4]
    refine w_iload_n (q := 5) (i := 3) (j := 3) hc dX4_countKin_4 rfl rfl rfl ?_
    refine w_aload_n (q := 6) (i := 0) (j := 0) hc dX4_countKin_5 rfl rfl rfl ?_
    refine gf_X4_9 (q := 9) hc dX4_countKin_6 (k_69 hK hrm) rfl ?_
    refine w_icmpge (q := 12) (tgt := 36) hc dX4_countKin_9 rfl rfl ?_ ?_
    · refine w_iload_n (q := 37) (i := 2) (j := 2) hc dX4_countKin_36 rfl rfl rfl ?_
      exact w_ireturn (v := v2_2) hc hq dX4_countKin_37 rfl rfl rfl
    · refine w_aload_n (q := 13) (i := 0) (j := 0) hc dX4_countKin_12 rfl rfl rfl ?_
      refine gf_X4_50 (q := 16) hc dX4_countKin_13 (k_69 hK hrm) (r_69_5 hR) rfl ?_
      refine w_iload_n (q := 17) (i := 3) (j := 3) hc dX4_countKin_16 rfl rfl rfl ?_
      refine w_iald (q := 18) hc dX4_countKin_17 (k_71 hK hrm) rfl ?_
      refine w_aload_n (q := 19) (i := 0) (j := 0) hc dX4_countKin_18 rfl rfl rfl ?_
      refine gf_X4_50 (q := 22) hc dX4_countKin_19 (k_69 hK hrm) (r_69_5 hR) rfl ?_
      refine w_iload_n (q := 23) (i := 1) (j := 1) hc dX4_countKin_22 rfl rfl rfl ?_
      refine w_iald (q := 24) hc dX4_countKin_23 (k_71 hK hrm) rfl ?_
      refine w_icmpne (q := 27) (tgt := 30) hc dX4_countKin_24 rfl rfl ?_ ?_
      · refine w_iincB (q := 30) (i := 2) (j := 2) (lv' := fun v2_5 => [(2, .int v2_5), (0, .ref 69), (1, .int v1_1), (3, .int v3_3)]) hc dX4_countKin_27 rfl ci_1 (hN 2 rfl) (fun _ => rfl) rfl (fun v2_5 => ?_)
        refine w_iincB (q := 33) (i := 3) (j := 3) (lv' := fun v3_6 => [(3, .int v3_6), (2, .int v2_5), (0, .ref 69), (1, .int v1_1)]) hc dX4_countKin_30 rfl ci_1 (hN 3 rfl) (fun _ => rfl) rfl (fun v3_6 => ?_)
        refine w_goto (tgt := 4) hc dX4_countKin_33 rfl ?_
        refine w_sub [2, 3, 1, 0] rfl ?_
        exact ih v2_5 v3_6
      · refine w_iincB (q := 33) (i := 3) (j := 3) (lv' := fun v3_4 => [(3, .int v3_4), (0, .ref 69), (1, .int v1_1), (2, .int v2_2)]) hc dX4_countKin_30 rfl ci_1 (hN 3 rfl) (fun _ => rfl) rfl (fun v3_4 => ?_)
        refine w_goto (tgt := 4) hc dX4_countKin_33 rfl ?_
        refine w_sub [1, 2, 3, 0] rfl ?_
        exact ih v2_2 v3_4
set_option maxRecDepth 100000 in
set_option maxHeartbeats 4000000 in
theorem m_X4_countKin {l : Launch} {K : KT} {R : MR} {rm : Nat} {a1 : Int32} {I : MI} {L : ML} (hK0 : K = lK rm) (hR0 : R = lR rm) (hrm : rm ≠ 0) : MFg l yX4_countKin cX4_countKin 4 (some .int) 0 0 [.ref 69, .int a1] K R I L anI (meR I L) (f_X4_countKin rm a1 I L) := by
  refine mf_of (plainFor_of_name (by decide)) (Nat.le_of_ble_eq_true rfl) ?_
  intro G hc _ hK1 hR1 hn hq
  have hK := hK1.trans hK0
  have hR := hR1.trans hR0
  have hN : ∀ i, Nat.blt i 4 = true → i < gnL G := fun i h => hn ▸ Nat.blt_eq.mp h
  unfold f_X4_countKin
  show WW G 0 [(0, .ref 69), (1, .int a1)] [] I L _
  refine w_iconst (q := 1) hc dX4_countKin_0 ci_0 rfl ?_
  refine w_istore_n (q := 2) (i := 2) (lv' := [(2, .int 0), (0, .ref 69), (1, .int a1)]) hc dX4_countKin_1 rfl (hN 2 rfl) rfl rfl ?_
  refine w_iconst (q := 3) hc dX4_countKin_2 ci_0 rfl ?_
  refine w_istore_n (q := 4) (i := 3) (lv' := [(3, .int 0), (2, .int 0), (0, .ref 69), (1, .int a1)]) hc dX4_countKin_3 rfl (hN 3 rfl) rfl rfl ?_
  refine w_sub [2, 3, 1, 0] rfl ?_
  exact wl_X4_countKin_4 rm a1 I L hc hq hK hR hn hrm FU 0 0
set_option maxRecDepth 100000 in
set_option maxHeartbeats 4000000 in
theorem wl_X4_takesInto_3 {G : GT Bool} (rm : Nat) (v1_1 : Int64) (v3_2 : Int32) (v4_3 : Int32) (I : MI) (L : ML) (hc : Cx G cX4_takesInto yX4_takesInto.cls (some .boolean) 1 22) (hq : RetQ G anZ (meR I L)) (hK : gK G = lK rm) (hR : gR G = lR rm) (hn : gnL G = 6) (hrm : rm ≠ 0) : ∀ (n : Nat) (v5_4 : Int32), WW G 3 [(0, .ref 69), (1, .long v1_1), (3, .int v3_2), (4, .int v4_3), (5, .int v5_4)] [] I L (f_X4_takesInto_3 rm v1_1 v3_2 v4_3 I L n v5_4) := by
  have hN : ∀ i, Nat.blt i 6 = true → i < gnL G := fun i h => hn ▸ Nat.blt_eq.mp h
  intro n
  induction n with
  | zero => intros; exact w_none _ _ _
  | succ n ih =>
    intros v5_4
    rw [f_X4_takesInto_3]
    refine w_iload (q := 5) (i := 5) (j := 4) hc dX4_takesInto_3 rfl rfl ?_
    refine w_aload_n (q := 6) (i := 0) (j := 0) hc dX4_takesInto_5 rfl rfl rfl ?_
    refine gf_X4_21 (q := 9) hc dX4_takesInto_6 (k_69 hK hrm) rfl ?_
    refine w_icmpge (q := 12) (tgt := 43) hc dX4_takesInto_9 rfl rfl ?_ ?_
    · refine w_iconst (q := 44) hc dX4_takesInto_43 ci_1 rfl ?_
      exact w_ireturn (v := b2i true) hc hq dX4_takesInto_44 (nar_b2i true) rfl rfl
    · refine w_iload_n (q := 13) (i := 3) (j := 2) hc dX4_takesInto_12 rfl rfl rfl ?_
      refine w_iload (q := 15) (i := 5) (j := 4) hc dX4_takesInto_13 rfl rfl ?_
      refine w_ishr (q := 16) hc dX4_takesInto_15  rfl ?_
      refine w_iconst (q := 17) hc dX4_takesInto_16 ci_1 rfl ?_
      refine w_iand (q := 18) hc dX4_takesInto_17  rfl ?_
      refine w_ifeq (q := 21) (tgt := 37) hc dX4_takesInto_18 rfl rfl ?_ ?_
      · refine w_iincB (q := 40) (i := 5) (j := 4) (lv' := fun v5_5 => [(5, .int v5_5), (0, .ref 69), (1, .long v1_1), (3, .int v3_2), (4, .int v4_3)]) hc dX4_takesInto_37 rfl ci_1 (hN 5 rfl) (fun _ => rfl) rfl (fun v5_5 => ?_)
        refine w_goto (tgt := 3) hc dX4_takesInto_40 rfl ?_
        refine w_sub [1, 2, 3, 4, 0] rfl ?_
        exact ih v5_5
      · refine w_iload (q := 23) (i := 4) (j := 3) hc dX4_takesInto_21 rfl rfl ?_
        refine w_lload_n (q := 24) (i := 1) (j := 1) hc dX4_takesInto_23 rfl rfl rfl ?_
        refine w_iload (q := 26) (i := 5) (j := 4) hc dX4_takesInto_24 rfl rfl ?_
        refine w_callS_Ri (q := 29) (st := [.int v4_3]) (args := [.long v1_1, .int v5_4]) hc (m_X6_image hK hR) dX4_takesInto_26 ml_X4_96 cf_X6_image st_X6_image rfl rfl (Nat.le_of_ble_eq_true rfl) ⟨Nat.le_of_ble_eq_true rfl, Nat.le_of_ble_eq_true rfl⟩ rfl (fun q_6 => ?_)
        refine w_ishr (q := 30) hc dX4_takesInto_29  rfl ?_
        refine w_iconst (q := 31) hc dX4_takesInto_30 ci_1 rfl ?_
        refine w_iand (q := 32) hc dX4_takesInto_31  rfl ?_
        refine w_ifne (q := 35) (tgt := 37) hc dX4_takesInto_32 rfl rfl ?_ ?_
        · refine w_iconst (q := 36) hc dX4_takesInto_35 ci_0 rfl ?_
          exact w_ireturn (v := b2i false) hc hq dX4_takesInto_36 (nar_b2i false) rfl rfl
        · refine w_iincB (q := 40) (i := 5) (j := 4) (lv' := fun v5_7 => [(5, .int v5_7), (0, .ref 69), (1, .long v1_1), (3, .int v3_2), (4, .int v4_3)]) hc dX4_takesInto_37 rfl ci_1 (hN 5 rfl) (fun _ => rfl) rfl (fun v5_7 => ?_)
          refine w_goto (tgt := 3) hc dX4_takesInto_40 rfl ?_
          refine w_sub [1, 2, 3, 4, 0] rfl ?_
          exact ih v5_7
set_option maxRecDepth 100000 in
set_option maxHeartbeats 4000000 in
theorem m_X4_takesInto {l : Launch} {K : KT} {R : MR} {rm : Nat} {a1 : Int64} {a3 : Int32} {a4 : Int32} {I : MI} {L : ML} (hK0 : K = lK rm) (hR0 : R = lR rm) (hrm : rm ≠ 0) : MFg l yX4_takesInto cX4_takesInto 6 (some .boolean) 1 22 [.ref 69, .long a1, .int a3, .int a4] K R I L anZ (meR I L) (f_X4_takesInto rm a1 a3 a4 I L) := by
  refine mf_of (plainFor_of_name (by decide)) (Nat.le_of_ble_eq_true rfl) ?_
  intro G hc _ hK1 hR1 hn hq
  have hK := hK1.trans hK0
  have hR := hR1.trans hR0
  have hN : ∀ i, Nat.blt i 6 = true → i < gnL G := fun i h => hn ▸ Nat.blt_eq.mp h
  unfold f_X4_takesInto
  show WW G 0 [(0, .ref 69), (1, .long a1), (3, .int a3), (4, .int a4)] [] I L _
  refine w_iconst (q := 1) hc dX4_takesInto_0 ci_0 rfl ?_
  refine w_istore (q := 3) (i := 5) (lv' := [(5, .int 0), (0, .ref 69), (1, .long a1), (3, .int a3), (4, .int a4)]) hc dX4_takesInto_1 (hN 5 rfl) rfl rfl ?_
  refine w_sub [1, 2, 3, 4, 0] rfl ?_
  exact wl_X4_takesInto_3 rm a1 a3 a4 I L hc hq hK hR hn hrm FU 0
set_option maxRecDepth 100000 in
set_option maxHeartbeats 4000000 in
theorem wl_X4_countKeeping_4 {G : GT Int32} (rm : Nat) (v1_1 : Int32) (I : MI) (L : ML) (hc : Cx G cX4_countKeeping yX4_countKeeping.cls (some .int) 2 47) (hq : RetQ G anI (meR I L)) (hK : gK G = lK rm) (hR : gR G = lR rm) (hn : gnL G = 4) (hrm : rm ≠ 0) : ∀ (n : Nat) (v2_2 : Int32) (v3_3 : Int32), WW G 4 [(0, .ref 69), (1, .int v1_1), (2, .int v2_2), (3, .int v3_3)] [] I L (f_X4_countKeeping_4 rm v1_1 I L n v2_2 v3_3) := by
  have hN : ∀ i, Nat.blt i 4 = true → i < gnL G := fun i h => hn ▸ Nat.blt_eq.mp h
  intro n
  induction n with
  | zero => intros; exact w_none _ _ _
  | succ n ih =>
    intros v2_2 v3_3
    rw [f_X4_countKeeping_4]
    refine w_iload_n (q := 5) (i := 3) (j := 3) hc dX4_countKeeping_4 rfl rfl rfl ?_
    refine w_aload_n (q := 6) (i := 0) (j := 0) hc dX4_countKeeping_5 rfl rfl rfl ?_
    refine gf_X4_9 (q := 9) hc dX4_countKeeping_6 (k_69 hK hrm) rfl ?_
    refine w_icmpge (q := 12) (tgt := 36) hc dX4_countKeeping_9 rfl rfl ?_ ?_
    · refine w_iload_n (q := 37) (i := 2) (j := 2) hc dX4_countKeeping_36 rfl rfl rfl ?_
      exact w_ireturn (v := v2_2) hc hq dX4_countKeeping_37 rfl rfl rfl
    · refine w_aload_n (q := 13) (i := 0) (j := 0) hc dX4_countKeeping_12 rfl rfl rfl ?_
      refine w_aload_n (q := 14) (i := 0) (j := 0) hc dX4_countKeeping_13 rfl rfl rfl ?_
      refine gf_X4_53 (q := 17) hc dX4_countKeeping_14 (k_69 hK hrm) (r_69_6 hR) rfl ?_
      refine w_iload_n (q := 18) (i := 3) (j := 3) hc dX4_countKeeping_17 rfl rfl rfl ?_
      refine w_lald (q := 19) hc dX4_countKeeping_18 (k_72 hK hrm) rfl ?_
      refine w_iload_n (q := 20) (i := 1) (j := 1) hc dX4_countKeeping_19 rfl rfl rfl ?_
      refine w_iload_n (q := 21) (i := 1) (j := 1) hc dX4_countKeeping_20 rfl rfl rfl ?_
      refine w_callV_Rz (q := 24) (st := []) (args := [.long (L 72 (ix v3_3)), .int v1_1, .int v1_1]) (p := 69) hc (m_X4_takesInto hK hR hrm) dX4_countKeeping_21 ml_X4_132 cf_X4_takesInto iv_X4_takesInto (k_69 hK hrm) (C := RX4) (T := TX4) (N := 16) rfl rfl (Nat.lt_of_succ_le (Nat.le_of_ble_eq_true rfl)) rfl rfl (Nat.le_of_ble_eq_true rfl) ⟨Nat.le_of_ble_eq_true rfl, Nat.le_of_ble_eq_true rfl⟩ rfl (fun q_4 => ?_)
      refine w_ifeq (q := 27) (tgt := 30) hc dX4_countKeeping_24 rfl rfl ?_ ?_
      · refine w_iincB (q := 33) (i := 3) (j := 3) (lv' := fun v3_5 => [(3, .int v3_5), (0, .ref 69), (1, .int v1_1), (2, .int v2_2)]) hc dX4_countKeeping_30 rfl ci_1 (hN 3 rfl) (fun _ => rfl) rfl (fun v3_5 => ?_)
        refine w_goto (tgt := 4) hc dX4_countKeeping_33 rfl ?_
        refine w_sub [1, 2, 3, 0] rfl ?_
        exact ih v2_2 v3_5
      · refine w_iincB (q := 30) (i := 2) (j := 2) (lv' := fun v2_6 => [(2, .int v2_6), (0, .ref 69), (1, .int v1_1), (3, .int v3_3)]) hc dX4_countKeeping_27 rfl ci_1 (hN 2 rfl) (fun _ => rfl) rfl (fun v2_6 => ?_)
        refine w_iincB (q := 33) (i := 3) (j := 3) (lv' := fun v3_7 => [(3, .int v3_7), (2, .int v2_6), (0, .ref 69), (1, .int v1_1)]) hc dX4_countKeeping_30 rfl ci_1 (hN 3 rfl) (fun _ => rfl) rfl (fun v3_7 => ?_)
        refine w_goto (tgt := 4) hc dX4_countKeeping_33 rfl ?_
        refine w_sub [2, 3, 1, 0] rfl ?_
        exact ih v2_6 v3_7
set_option maxRecDepth 100000 in
set_option maxHeartbeats 4000000 in
theorem m_X4_countKeeping {l : Launch} {K : KT} {R : MR} {rm : Nat} {a1 : Int32} {I : MI} {L : ML} (hK0 : K = lK rm) (hR0 : R = lR rm) (hrm : rm ≠ 0) : MFg l yX4_countKeeping cX4_countKeeping 4 (some .int) 2 47 [.ref 69, .int a1] K R I L anI (meR I L) (f_X4_countKeeping rm a1 I L) := by
  refine mf_of (plainFor_of_name (by decide)) (Nat.le_of_ble_eq_true rfl) ?_
  intro G hc _ hK1 hR1 hn hq
  have hK := hK1.trans hK0
  have hR := hR1.trans hR0
  have hN : ∀ i, Nat.blt i 4 = true → i < gnL G := fun i h => hn ▸ Nat.blt_eq.mp h
  unfold f_X4_countKeeping
  show WW G 0 [(0, .ref 69), (1, .int a1)] [] I L _
  refine w_iconst (q := 1) hc dX4_countKeeping_0 ci_0 rfl ?_
  refine w_istore_n (q := 2) (i := 2) (lv' := [(2, .int 0), (0, .ref 69), (1, .int a1)]) hc dX4_countKeeping_1 rfl (hN 2 rfl) rfl rfl ?_
  refine w_iconst (q := 3) hc dX4_countKeeping_2 ci_0 rfl ?_
  refine w_istore_n (q := 4) (i := 3) (lv' := [(3, .int 0), (2, .int 0), (0, .ref 69), (1, .int a1)]) hc dX4_countKeeping_3 rfl (hN 3 rfl) rfl rfl ?_
  refine w_sub [2, 3, 1, 0] rfl ?_
  exact wl_X4_countKeeping_4 rm a1 I L hc hq hK hR hn hrm FU 0 0
set_option maxRecDepth 100000 in
set_option maxHeartbeats 4000000 in
theorem wl_X4_firstBringing_15 {G : GT Int32} (rm : Nat) (v1_3 : Int32) (v2_4 : Int32) (I : MI) (L : ML) (hc : Cx G cX4_firstBringing yX4_firstBringing.cls (some .int) 2 47) (hq : RetQ G anI (meR I L)) (hK : gK G = lK rm) (hR : gR G = lR rm) (hn : gnL G = 4) (hrm : rm ≠ 0) : ∀ (n : Nat) (v3_5 : Int32), WW G 15 [(0, .ref 69), (1, .int v1_3), (2, .int v2_4), (3, .int v3_5)] [] I L (f_X4_firstBringing_15 rm v1_3 v2_4 I L n v3_5) := by
  have hN : ∀ i, Nat.blt i 4 = true → i < gnL G := fun i h => hn ▸ Nat.blt_eq.mp h
  intro n
  induction n with
  | zero => intros; exact w_none _ _ _
  | succ n ih =>
    intros v3_5
    rw [f_X4_firstBringing_15]
    refine w_iload_n (q := 16) (i := 3) (j := 3) hc dX4_firstBringing_15 rfl rfl rfl ?_
    refine w_aload_n (q := 17) (i := 0) (j := 0) hc dX4_firstBringing_16 rfl rfl rfl ?_
    refine gf_X4_9 (q := 20) hc dX4_firstBringing_17 (k_69 hK hrm) rfl ?_
    refine w_icmpge (q := 23) (tgt := 46) hc dX4_firstBringing_20 rfl rfl ?_ ?_
    · refine w_iconst (q := 47) hc dX4_firstBringing_46 ci_m1 rfl ?_
      exact w_ireturn (v := (-1)) hc hq dX4_firstBringing_47 rfl rfl rfl
    · refine w_aload_n (q := 24) (i := 0) (j := 0) hc dX4_firstBringing_23 rfl rfl rfl ?_
      refine w_aload_n (q := 25) (i := 0) (j := 0) hc dX4_firstBringing_24 rfl rfl rfl ?_
      refine gf_X4_53 (q := 28) hc dX4_firstBringing_25 (k_69 hK hrm) (r_69_6 hR) rfl ?_
      refine w_iload_n (q := 29) (i := 3) (j := 3) hc dX4_firstBringing_28 rfl rfl rfl ?_
      refine w_lald (q := 30) hc dX4_firstBringing_29 (k_72 hK hrm) rfl ?_
      refine w_iload_n (q := 31) (i := 1) (j := 1) hc dX4_firstBringing_30 rfl rfl rfl ?_
      refine w_iload_n (q := 32) (i := 2) (j := 2) hc dX4_firstBringing_31 rfl rfl rfl ?_
      refine w_callV_Rz (q := 35) (st := []) (args := [.long (L 72 (ix v3_5)), .int v1_3, .int v2_4]) (p := 69) hc (m_X4_takesInto hK hR hrm) dX4_firstBringing_32 ml_X4_132 cf_X4_takesInto iv_X4_takesInto (k_69 hK hrm) (C := RX4) (T := TX4) (N := 16) rfl rfl (Nat.lt_of_succ_le (Nat.le_of_ble_eq_true rfl)) rfl rfl (Nat.le_of_ble_eq_true rfl) ⟨Nat.le_of_ble_eq_true rfl, Nat.le_of_ble_eq_true rfl⟩ rfl (fun q_6 => ?_)
      refine w_ifeq (q := 38) (tgt := 40) hc dX4_firstBringing_35 rfl rfl ?_ ?_
      · refine w_iincB (q := 43) (i := 3) (j := 3) (lv' := fun v3_7 => [(3, .int v3_7), (0, .ref 69), (1, .int v1_3), (2, .int v2_4)]) hc dX4_firstBringing_40 rfl ci_1 (hN 3 rfl) (fun _ => rfl) rfl (fun v3_7 => ?_)
        refine w_goto (tgt := 15) hc dX4_firstBringing_43 rfl ?_
        refine w_sub [1, 2, 3, 0] rfl ?_
        exact ih v3_7
      · refine w_iload_n (q := 39) (i := 3) (j := 3) hc dX4_firstBringing_38 rfl rfl rfl ?_
        exact w_ireturn (v := v3_5) hc hq dX4_firstBringing_39 rfl rfl rfl
set_option maxRecDepth 100000 in
set_option maxHeartbeats 4000000 in
theorem m_X4_firstBringing {l : Launch} {K : KT} {R : MR} {rm : Nat} {a1 : Int32} {a2 : Int32} {I : MI} {L : ML} (hK0 : K = lK rm) (hR0 : R = lR rm) (hrm : rm ≠ 0) : MFg l yX4_firstBringing cX4_firstBringing 4 (some .int) 2 47 [.ref 69, .int a1, .int a2] K R I L anI (meR I L) (f_X4_firstBringing rm a1 a2 I L) := by
  refine mf_of (plainFor_of_name (by decide)) (Nat.le_of_ble_eq_true rfl) ?_
  intro G hc _ hK1 hR1 hn hq
  have hK := hK1.trans hK0
  have hR := hR1.trans hR0
  have hN : ∀ i, Nat.blt i 4 = true → i < gnL G := fun i h => hn ▸ Nat.blt_eq.mp h
  unfold f_X4_firstBringing
  show WW G 0 [(0, .ref 69), (1, .int a1), (2, .int a2)] [] I L _
  refine w_iload_n (q := 1) (i := 1) (j := 1) hc dX4_firstBringing_0 rfl rfl rfl ?_
  refine w_callS_Ri (q := 4) (st := []) (args := [.int a1]) hc (m_J6_bitCount_0f7a4 hK hR) dX4_firstBringing_1 ml_X4_83 cf_J6_bitCount_0f7a4 st_J6_bitCount_0f7a4 rfl rfl (Nat.le_of_ble_eq_true rfl) ⟨Nat.le_of_ble_eq_true rfl, Nat.le_of_ble_eq_true rfl⟩ rfl (fun q_1 => ?_)
  refine w_iload_n (q := 5) (i := 2) (j := 2) hc dX4_firstBringing_4 rfl rfl rfl ?_
  refine w_callS_Ri (q := 8) (st := [.int q_1]) (args := [.int a2]) hc (m_J6_bitCount_0f7a4 hK hR) dX4_firstBringing_5 ml_X4_83 cf_J6_bitCount_0f7a4 st_J6_bitCount_0f7a4 rfl rfl (Nat.le_of_ble_eq_true rfl) ⟨Nat.le_of_ble_eq_true rfl, Nat.le_of_ble_eq_true rfl⟩ rfl (fun q_2 => ?_)
  refine w_icmpeq (q := 11) (tgt := 13) hc dX4_firstBringing_8 rfl rfl ?_ ?_
  · refine w_iconst (q := 14) hc dX4_firstBringing_13 ci_0 rfl ?_
    refine w_istore_n (q := 15) (i := 3) (lv' := [(3, .int 0), (0, .ref 69), (1, .int a1), (2, .int a2)]) hc dX4_firstBringing_14 rfl (hN 3 rfl) rfl rfl ?_
    refine w_sub [1, 2, 3, 0] rfl ?_
    exact wl_X4_firstBringing_15 rm a1 a2 I L hc hq hK hR hn hrm FU 0
  · refine w_iconst (q := 12) hc dX4_firstBringing_11 ci_m1 rfl ?_
    exact w_ireturn (v := (-1)) hc hq dX4_firstBringing_12 rfl rfl rfl
set_option maxRecDepth 100000 in
set_option maxHeartbeats 4000000 in
theorem wl_X4_firstRoot_18 {G : GT Int32} (rm : Nat) (v1_4 : Int64) (v3_5 : Int32) (v4_6 : Int32) (I : MI) (L : ML) (hc : Cx G cX4_firstRoot yX4_firstRoot.cls (some .int) 2 49) (hq : RetQ G anI (meR I L)) (hK : gK G = lK rm) (hR : gR G = lR rm) (hn : gnL G = 7) (hrm : rm ≠ 0) (k0 : Int32 → Option Int32) (hk0 : ∀ (v5_13 : Int32), WW G 67 [(0, .ref 69), (1, .long v1_4), (3, .int v3_5), (4, .int v4_6), (5, .int v5_13)] [] I L (k0 v5_13)) : ∀ (n : Nat) (v5_7 : Int32) (v6_8 : Int32), WW G 18 [(0, .ref 69), (1, .long v1_4), (3, .int v3_5), (4, .int v4_6), (5, .int v5_7), (6, .int v6_8)] [] I L (f_X4_firstRoot_18 rm v1_4 v3_5 v4_6 I L k0 n v5_7 v6_8) := by
  have hN : ∀ i, Nat.blt i 7 = true → i < gnL G := fun i h => hn ▸ Nat.blt_eq.mp h
  intro n
  induction n with
  | zero => intros; exact w_none _ _ _
  | succ n ih =>
    intros v5_7 v6_8
    rw [f_X4_firstRoot_18]
    refine w_iload (q := 20) (i := 6) (j := 5) hc dX4_firstRoot_18 rfl rfl ?_
    refine w_aload_n (q := 21) (i := 0) (j := 0) hc dX4_firstRoot_20 rfl rfl rfl ?_
    refine gf_X4_21 (q := 24) hc dX4_firstRoot_21 (k_69 hK hrm) rfl ?_
    refine w_icmpge (q := 27) (tgt := 67) hc dX4_firstRoot_24 rfl rfl ?_ ?_
    · refine w_sub [0, 1, 2, 3, 4] rfl ?_
      exact hk0 v5_7
    · refine w_iload (q := 29) (i := 5) (j := 4) hc dX4_firstRoot_27 rfl rfl ?_
      refine w_ifeq (q := 32) (tgt := 67) hc dX4_firstRoot_29 rfl rfl ?_ ?_
      · refine w_sub [0, 1, 2, 3, 4] rfl ?_
        exact hk0 v5_7
      · refine w_aload_n (q := 33) (i := 0) (j := 0) hc dX4_firstRoot_32 rfl rfl rfl ?_
        refine gf_X4_53 (q := 36) hc dX4_firstRoot_33 (k_69 hK hrm) (r_69_6 hR) rfl ?_
        refine w_iload (q := 38) (i := 4) (j := 3) hc dX4_firstRoot_36 rfl rfl ?_
        refine w_lald (q := 39) hc dX4_firstRoot_38 (k_72 hK hrm) rfl ?_
        refine w_iload (q := 41) (i := 6) (j := 5) hc dX4_firstRoot_39 rfl rfl ?_
        refine w_iload_n (q := 42) (i := 3) (j := 2) hc dX4_firstRoot_41 rfl rfl rfl ?_
        refine w_callS_Ri (q := 45) (st := []) (args := [.long (L 72 (ix v4_6)), .int v6_8, .int v3_5]) hc (m_X6_imageOfPower hK hR) dX4_firstRoot_42 ml_X4_136 cf_X6_imageOfPower st_X6_imageOfPower rfl rfl (Nat.le_of_ble_eq_true rfl) ⟨Nat.le_of_ble_eq_true rfl, Nat.le_of_ble_eq_true rfl⟩ rfl (fun q_9 => ?_)
        refine w_lload_n (q := 46) (i := 1) (j := 1) hc dX4_firstRoot_45 rfl rfl rfl ?_
        refine w_iload (q := 48) (i := 6) (j := 5) hc dX4_firstRoot_46 rfl rfl ?_
        refine w_callS_Ri (q := 51) (st := [.int q_9]) (args := [.long v1_4, .int v6_8]) hc (m_X6_image hK hR) dX4_firstRoot_48 ml_X4_96 cf_X6_image st_X6_image rfl rfl (Nat.le_of_ble_eq_true rfl) ⟨Nat.le_of_ble_eq_true rfl, Nat.le_of_ble_eq_true rfl⟩ rfl (fun q_10 => ?_)
        refine w_icmpne (q := 54) (tgt := 58) hc dX4_firstRoot_51 rfl rfl ?_ ?_
        · refine w_iconst (q := 55) hc dX4_firstRoot_54 ci_1 rfl ?_
          refine w_goto (tgt := 59) hc dX4_firstRoot_55 rfl ?_
          refine w_istore (q := 61) (i := 5) (lv' := [(5, .int 1), (0, .ref 69), (1, .long v1_4), (3, .int v3_5), (4, .int v4_6), (6, .int v6_8)]) hc dX4_firstRoot_59 (hN 5 rfl) rfl rfl ?_
          refine w_iincB (q := 64) (i := 6) (j := 5) (lv' := fun v6_12 => [(6, .int v6_12), (5, .int 1), (0, .ref 69), (1, .long v1_4), (3, .int v3_5), (4, .int v4_6)]) hc dX4_firstRoot_61 rfl ci_1 (hN 6 rfl) (fun _ => rfl) rfl (fun v6_12 => ?_)
          refine w_goto (tgt := 18) hc dX4_firstRoot_64 rfl ?_
          refine w_sub [2, 3, 4, 5, 1, 0] rfl ?_
          exact ih 1 v6_12
        · refine w_iconst (q := 59) hc dX4_firstRoot_58 ci_0 rfl ?_
          refine w_istore (q := 61) (i := 5) (lv' := [(5, .int 0), (0, .ref 69), (1, .long v1_4), (3, .int v3_5), (4, .int v4_6), (6, .int v6_8)]) hc dX4_firstRoot_59 (hN 5 rfl) rfl rfl ?_
          refine w_iincB (q := 64) (i := 6) (j := 5) (lv' := fun v6_11 => [(6, .int v6_11), (5, .int 0), (0, .ref 69), (1, .long v1_4), (3, .int v3_5), (4, .int v4_6)]) hc dX4_firstRoot_61 rfl ci_1 (hN 6 rfl) (fun _ => rfl) rfl (fun v6_11 => ?_)
          refine w_goto (tgt := 18) hc dX4_firstRoot_64 rfl ?_
          refine w_sub [2, 3, 4, 5, 1, 0] rfl ?_
          exact ih 0 v6_11
set_option maxRecDepth 100000 in
set_option maxHeartbeats 4000000 in
theorem wl_X4_firstRoot_3 {G : GT Int32} (rm : Nat) (v1_1 : Int64) (v3_2 : Int32) (I : MI) (L : ML) (hc : Cx G cX4_firstRoot yX4_firstRoot.cls (some .int) 2 49) (hq : RetQ G anI (meR I L)) (hK : gK G = lK rm) (hR : gR G = lR rm) (hn : gnL G = 7) (hrm : rm ≠ 0) : ∀ (n : Nat) (v4_3 : Int32), WW G 3 [(0, .ref 69), (1, .long v1_1), (3, .int v3_2), (4, .int v4_3)] [] I L (f_X4_firstRoot_3 rm v1_1 v3_2 I L n v4_3) := by
  have hN : ∀ i, Nat.blt i 7 = true → i < gnL G := fun i h => hn ▸ Nat.blt_eq.mp h
  intro n
  induction n with
  | zero => intros; exact w_none _ _ _
  | succ n ih =>
    intros v4_3
    rw [f_X4_firstRoot_3]
    refine w_iload (q := 5) (i := 4) (j := 3) hc dX4_firstRoot_3 rfl rfl ?_
    refine w_aload_n (q := 6) (i := 0) (j := 0) hc dX4_firstRoot_5 rfl rfl rfl ?_
    refine gf_X4_9 (q := 9) hc dX4_firstRoot_6 (k_69 hK hrm) rfl ?_
    refine w_icmpge (q := 12) (tgt := 81) hc dX4_firstRoot_9 rfl rfl ?_ ?_
    · refine w_iconst (q := 82) hc dX4_firstRoot_81 ci_m1 rfl ?_
      exact w_ireturn (v := (-1)) hc hq dX4_firstRoot_82 rfl rfl rfl
    · refine w_iconst (q := 13) hc dX4_firstRoot_12 ci_1 rfl ?_
      refine w_istore (q := 15) (i := 5) (lv' := [(5, .int 1), (0, .ref 69), (1, .long v1_1), (3, .int v3_2), (4, .int v4_3)]) hc dX4_firstRoot_13 (hN 5 rfl) rfl rfl ?_
      refine w_iconst (q := 16) hc dX4_firstRoot_15 ci_0 rfl ?_
      refine w_istore (q := 18) (i := 6) (lv' := [(6, .int 0), (5, .int 1), (0, .ref 69), (1, .long v1_1), (3, .int v3_2), (4, .int v4_3)]) hc dX4_firstRoot_16 (hN 6 rfl) rfl rfl ?_
      refine w_sub [2, 3, 4, 5, 1, 0] rfl ?_
      refine wl_X4_firstRoot_18 rm v1_1 v3_2 v4_3 I L hc hq hK hR hn hrm _ ?_ FU 1 0
      intro v5_13
      refine w_iload (q := 69) (i := 5) (j := 4) hc dX4_firstRoot_67 rfl rfl ?_
      refine w_ifeq (q := 72) (tgt := 75) hc dX4_firstRoot_69 rfl rfl ?_ ?_
      · refine w_iincB (q := 78) (i := 4) (j := 3) (lv' := fun v4_14 => [(4, .int v4_14), (0, .ref 69), (1, .long v1_1), (3, .int v3_2), (5, .int v5_13)]) hc dX4_firstRoot_75 rfl ci_1 (hN 4 rfl) (fun _ => rfl) rfl (fun v4_14 => ?_)
        refine w_goto (tgt := 3) hc dX4_firstRoot_78 rfl ?_
        refine w_sub [1, 2, 3, 0] rfl ?_
        exact ih v4_14
      · refine w_iload (q := 74) (i := 4) (j := 3) hc dX4_firstRoot_72 rfl rfl ?_
        exact w_ireturn (v := v4_3) hc hq dX4_firstRoot_74 rfl rfl rfl
set_option maxRecDepth 100000 in
set_option maxHeartbeats 4000000 in
theorem m_X4_firstRoot {l : Launch} {K : KT} {R : MR} {rm : Nat} {a1 : Int64} {a3 : Int32} {I : MI} {L : ML} (hK0 : K = lK rm) (hR0 : R = lR rm) (hrm : rm ≠ 0) : MFg l yX4_firstRoot cX4_firstRoot 7 (some .int) 2 49 [.ref 69, .long a1, .int a3] K R I L anI (meR I L) (f_X4_firstRoot rm a1 a3 I L) := by
  refine mf_of (plainFor_of_name (by decide)) (Nat.le_of_ble_eq_true rfl) ?_
  intro G hc _ hK1 hR1 hn hq
  have hK := hK1.trans hK0
  have hR := hR1.trans hR0
  have hN : ∀ i, Nat.blt i 7 = true → i < gnL G := fun i h => hn ▸ Nat.blt_eq.mp h
  unfold f_X4_firstRoot
  show WW G 0 [(0, .ref 69), (1, .long a1), (3, .int a3)] [] I L _
  refine w_iconst (q := 1) hc dX4_firstRoot_0 ci_0 rfl ?_
  refine w_istore (q := 3) (i := 4) (lv' := [(4, .int 0), (0, .ref 69), (1, .long a1), (3, .int a3)]) hc dX4_firstRoot_1 (hN 4 rfl) rfl rfl ?_
  refine w_sub [1, 2, 3, 0] rfl ?_
  exact wl_X4_firstRoot_3 rm a1 a3 I L hc hq hK hR hn hrm FU 0
set_option maxRecDepth 100000 in
set_option maxHeartbeats 4000000 in
theorem wl_X4_countStaying_4 {G : GT Int32} (rm : Nat) (v1_1 : Int32) (I : MI) (L : ML) (hc : Cx G cX4_countStaying yX4_countStaying.cls (some .int) 1 21) (hq : RetQ G anI (meR I L)) (hK : gK G = lK rm) (hR : gR G = lR rm) (hn : gnL G = 4) (hrm : rm ≠ 0) : ∀ (n : Nat) (v2_2 : Int32) (v3_3 : Int32), WW G 4 [(0, .ref 69), (1, .int v1_1), (2, .int v2_2), (3, .int v3_3)] [] I L (f_X4_countStaying_4 rm v1_1 I L n v2_2 v3_3) := by
  have hN : ∀ i, Nat.blt i 4 = true → i < gnL G := fun i h => hn ▸ Nat.blt_eq.mp h
  intro n
  induction n with
  | zero => intros; exact w_none _ _ _
  | succ n ih =>
    intros v2_2 v3_3
    rw [f_X4_countStaying_4]
    refine w_iload_n (q := 5) (i := 3) (j := 3) hc dX4_countStaying_4 rfl rfl rfl ?_
    refine w_aload_n (q := 6) (i := 0) (j := 0) hc dX4_countStaying_5 rfl rfl rfl ?_
    refine gf_X4_9 (q := 9) hc dX4_countStaying_6 (k_69 hK hrm) rfl ?_
    refine w_icmpge (q := 12) (tgt := 34) hc dX4_countStaying_9 rfl rfl ?_ ?_
    · refine w_iload_n (q := 35) (i := 2) (j := 2) hc dX4_countStaying_34 rfl rfl rfl ?_
      exact w_ireturn (v := v2_2) hc hq dX4_countStaying_35 rfl rfl rfl
    · refine w_aload_n (q := 13) (i := 0) (j := 0) hc dX4_countStaying_12 rfl rfl rfl ?_
      refine gf_X4_57 (q := 16) hc dX4_countStaying_13 (k_69 hK hrm) (r_69_7 hR) rfl ?_
      refine w_iload_n (q := 17) (i := 3) (j := 3) hc dX4_countStaying_16 rfl rfl rfl ?_
      refine w_lald (q := 18) hc dX4_countStaying_17 (k_73 hK hrm) rfl ?_
      refine w_callS_Ri (q := 21) (st := []) (args := [.long (L 73 (ix v3_3))]) hc (m_X6_staying hK hR) dX4_countStaying_18 ml_X4_143 cf_X6_staying st_X6_staying rfl rfl (Nat.le_of_ble_eq_true rfl) ⟨Nat.le_of_ble_eq_true rfl, Nat.le_of_ble_eq_true rfl⟩ rfl (fun q_4 => ?_)
      refine w_iload_n (q := 22) (i := 1) (j := 1) hc dX4_countStaying_21 rfl rfl rfl ?_
      refine w_icmpne (q := 25) (tgt := 28) hc dX4_countStaying_22 rfl rfl ?_ ?_
      · refine w_iincB (q := 28) (i := 2) (j := 2) (lv' := fun v2_6 => [(2, .int v2_6), (0, .ref 69), (1, .int v1_1), (3, .int v3_3)]) hc dX4_countStaying_25 rfl ci_1 (hN 2 rfl) (fun _ => rfl) rfl (fun v2_6 => ?_)
        refine w_iincB (q := 31) (i := 3) (j := 3) (lv' := fun v3_7 => [(3, .int v3_7), (2, .int v2_6), (0, .ref 69), (1, .int v1_1)]) hc dX4_countStaying_28 rfl ci_1 (hN 3 rfl) (fun _ => rfl) rfl (fun v3_7 => ?_)
        refine w_goto (tgt := 4) hc dX4_countStaying_31 rfl ?_
        refine w_sub [2, 3, 1, 0] rfl ?_
        exact ih v2_6 v3_7
      · refine w_iincB (q := 31) (i := 3) (j := 3) (lv' := fun v3_5 => [(3, .int v3_5), (0, .ref 69), (1, .int v1_1), (2, .int v2_2)]) hc dX4_countStaying_28 rfl ci_1 (hN 3 rfl) (fun _ => rfl) rfl (fun v3_5 => ?_)
        refine w_goto (tgt := 4) hc dX4_countStaying_31 rfl ?_
        refine w_sub [1, 2, 3, 0] rfl ?_
        exact ih v2_2 v3_5
set_option maxRecDepth 100000 in
set_option maxHeartbeats 4000000 in
theorem m_X4_countStaying {l : Launch} {K : KT} {R : MR} {rm : Nat} {a1 : Int32} {I : MI} {L : ML} (hK0 : K = lK rm) (hR0 : R = lR rm) (hrm : rm ≠ 0) : MFg l yX4_countStaying cX4_countStaying 4 (some .int) 1 21 [.ref 69, .int a1] K R I L anI (meR I L) (f_X4_countStaying rm a1 I L) := by
  refine mf_of (plainFor_of_name (by decide)) (Nat.le_of_ble_eq_true rfl) ?_
  intro G hc _ hK1 hR1 hn hq
  have hK := hK1.trans hK0
  have hR := hR1.trans hR0
  have hN : ∀ i, Nat.blt i 4 = true → i < gnL G := fun i h => hn ▸ Nat.blt_eq.mp h
  unfold f_X4_countStaying
  show WW G 0 [(0, .ref 69), (1, .int a1)] [] I L _
  refine w_iconst (q := 1) hc dX4_countStaying_0 ci_0 rfl ?_
  refine w_istore_n (q := 2) (i := 2) (lv' := [(2, .int 0), (0, .ref 69), (1, .int a1)]) hc dX4_countStaying_1 rfl (hN 2 rfl) rfl rfl ?_
  refine w_iconst (q := 3) hc dX4_countStaying_2 ci_0 rfl ?_
  refine w_istore_n (q := 4) (i := 3) (lv' := [(3, .int 0), (2, .int 0), (0, .ref 69), (1, .int a1)]) hc dX4_countStaying_3 rfl (hN 3 rfl) rfl rfl ?_
  refine w_sub [2, 3, 1, 0] rfl ?_
  exact wl_X4_countStaying_4 rm a1 I L hc hq hK hR hn hrm FU 0 0
set_option maxRecDepth 100000 in
set_option maxHeartbeats 4000000 in
theorem wl_X4_countShaped_5 {G : GT Int32} (rm : Nat) (v1_1 : Int64) (I : MI) (L : ML) (hc : Cx G cX4_countShaped yX4_countShaped.cls (some .int) 0 0) (hq : RetQ G anI (meR I L)) (hK : gK G = lK rm) (hR : gR G = lR rm) (hn : gnL G = 5) (hrm : rm ≠ 0) : ∀ (n : Nat) (v3_2 : Int32) (v4_3 : Int32), WW G 5 [(0, .ref 69), (1, .long v1_1), (3, .int v3_2), (4, .int v4_3)] [] I L (f_X4_countShaped_5 rm v1_1 I L n v3_2 v4_3) := by
  have hN : ∀ i, Nat.blt i 5 = true → i < gnL G := fun i h => hn ▸ Nat.blt_eq.mp h
  intro n
  induction n with
  | zero => intros; exact w_none _ _ _
  | succ n ih =>
    intros v3_2 v4_3
    rw [f_X4_countShaped_5]
    refine w_iload (q := 7) (i := 4) (j := 3) hc dX4_countShaped_5 rfl rfl ?_
    refine w_aload_n (q := 8) (i := 0) (j := 0) hc dX4_countShaped_7 rfl rfl rfl ?_
    refine gf_X4_9 (q := 11) hc dX4_countShaped_8 (k_69 hK hrm) rfl ?_
    refine w_icmpge (q := 14) (tgt := 35) hc dX4_countShaped_11 rfl rfl ?_ ?_
    · refine w_iload_n (q := 36) (i := 3) (j := 2) hc dX4_countShaped_35 rfl rfl rfl ?_
      exact w_ireturn (v := v3_2) hc hq dX4_countShaped_36 rfl rfl rfl
    · refine w_aload_n (q := 15) (i := 0) (j := 0) hc dX4_countShaped_14 rfl rfl rfl ?_
      refine gf_X4_57 (q := 18) hc dX4_countShaped_15 (k_69 hK hrm) (r_69_7 hR) rfl ?_
      refine w_iload (q := 20) (i := 4) (j := 3) hc dX4_countShaped_18 rfl rfl ?_
      refine w_lald (q := 21) hc dX4_countShaped_20 (k_73 hK hrm) rfl ?_
      refine w_lload_n (q := 22) (i := 1) (j := 1) hc dX4_countShaped_21 rfl rfl rfl ?_
      refine w_lcmp (q := 23) hc dX4_countShaped_22  rfl ?_
      refine w_ifne (q := 26) (tgt := 29) hc dX4_countShaped_23 rfl rfl ?_ ?_
      · refine w_iincB (q := 29) (i := 3) (j := 2) (lv' := fun v3_5 => [(3, .int v3_5), (0, .ref 69), (1, .long v1_1), (4, .int v4_3)]) hc dX4_countShaped_26 rfl ci_1 (hN 3 rfl) (fun _ => rfl) rfl (fun v3_5 => ?_)
        refine w_iincB (q := 32) (i := 4) (j := 3) (lv' := fun v4_6 => [(4, .int v4_6), (3, .int v3_5), (0, .ref 69), (1, .long v1_1)]) hc dX4_countShaped_29 rfl ci_1 (hN 4 rfl) (fun _ => rfl) rfl (fun v4_6 => ?_)
        refine w_goto (tgt := 5) hc dX4_countShaped_32 rfl ?_
        refine w_sub [2, 3, 1, 0] rfl ?_
        exact ih v3_5 v4_6
      · refine w_iincB (q := 32) (i := 4) (j := 3) (lv' := fun v4_4 => [(4, .int v4_4), (0, .ref 69), (1, .long v1_1), (3, .int v3_2)]) hc dX4_countShaped_29 rfl ci_1 (hN 4 rfl) (fun _ => rfl) rfl (fun v4_4 => ?_)
        refine w_goto (tgt := 5) hc dX4_countShaped_32 rfl ?_
        refine w_sub [1, 2, 3, 0] rfl ?_
        exact ih v3_2 v4_4
set_option maxRecDepth 100000 in
set_option maxHeartbeats 4000000 in
theorem m_X4_countShaped {l : Launch} {K : KT} {R : MR} {rm : Nat} {a1 : Int64} {I : MI} {L : ML} (hK0 : K = lK rm) (hR0 : R = lR rm) (hrm : rm ≠ 0) : MFg l yX4_countShaped cX4_countShaped 5 (some .int) 0 0 [.ref 69, .long a1] K R I L anI (meR I L) (f_X4_countShaped rm a1 I L) := by
  refine mf_of (plainFor_of_name (by decide)) (Nat.le_of_ble_eq_true rfl) ?_
  intro G hc _ hK1 hR1 hn hq
  have hK := hK1.trans hK0
  have hR := hR1.trans hR0
  have hN : ∀ i, Nat.blt i 5 = true → i < gnL G := fun i h => hn ▸ Nat.blt_eq.mp h
  unfold f_X4_countShaped
  show WW G 0 [(0, .ref 69), (1, .long a1)] [] I L _
  refine w_iconst (q := 1) hc dX4_countShaped_0 ci_0 rfl ?_
  refine w_istore_n (q := 2) (i := 3) (lv' := [(3, .int 0), (0, .ref 69), (1, .long a1)]) hc dX4_countShaped_1 rfl (hN 3 rfl) rfl rfl ?_
  refine w_iconst (q := 3) hc dX4_countShaped_2 ci_0 rfl ?_
  refine w_istore (q := 5) (i := 4) (lv' := [(4, .int 0), (3, .int 0), (0, .ref 69), (1, .long a1)]) hc dX4_countShaped_3 (hN 4 rfl) rfl rfl ?_
  refine w_sub [2, 3, 1, 0] rfl ?_
  exact wl_X4_countShaped_5 rm a1 I L hc hq hK hR hn hrm FU 0 0
set_option maxRecDepth 100000 in
set_option maxHeartbeats 4000000 in
theorem wl_X4_countPeriod_4 {G : GT Int32} (rm : Nat) (v1_1 : Int32) (I : MI) (L : ML) (hc : Cx G cX4_countPeriod yX4_countPeriod.cls (some .int) 2 49) (hq : RetQ G anI (meR I L)) (hK : gK G = lK rm) (hR : gR G = lR rm) (hn : gnL G = 4) (hrm : rm ≠ 0) : ∀ (n : Nat) (v2_2 : Int32) (v3_3 : Int32), WW G 4 [(0, .ref 69), (1, .int v1_1), (2, .int v2_2), (3, .int v3_3)] [] I L (f_X4_countPeriod_4 rm v1_1 I L n v2_2 v3_3) := by
  have hN : ∀ i, Nat.blt i 4 = true → i < gnL G := fun i h => hn ▸ Nat.blt_eq.mp h
  intro n
  induction n with
  | zero => intros; exact w_none _ _ _
  | succ n ih =>
    intros v2_2 v3_3
    rw [f_X4_countPeriod_4]
    refine w_iload_n (q := 5) (i := 3) (j := 3) hc dX4_countPeriod_4 rfl rfl rfl ?_
    refine w_aload_n (q := 6) (i := 0) (j := 0) hc dX4_countPeriod_5 rfl rfl rfl ?_
    refine gf_X4_9 (q := 9) hc dX4_countPeriod_6 (k_69 hK hrm) rfl ?_
    refine w_icmpge (q := 12) (tgt := 34) hc dX4_countPeriod_9 rfl rfl ?_ ?_
    · refine w_iload_n (q := 35) (i := 2) (j := 2) hc dX4_countPeriod_34 rfl rfl rfl ?_
      exact w_ireturn (v := v2_2) hc hq dX4_countPeriod_35 rfl rfl rfl
    · refine w_aload_n (q := 13) (i := 0) (j := 0) hc dX4_countPeriod_12 rfl rfl rfl ?_
      refine gf_X4_57 (q := 16) hc dX4_countPeriod_13 (k_69 hK hrm) (r_69_7 hR) rfl ?_
      refine w_iload_n (q := 17) (i := 3) (j := 3) hc dX4_countPeriod_16 rfl rfl rfl ?_
      refine w_lald (q := 18) hc dX4_countPeriod_17 (k_73 hK hrm) rfl ?_
      refine w_callS_Ri (q := 21) (st := []) (args := [.long (L 73 (ix v3_3))]) hc (m_X6_period hK hR) dX4_countPeriod_18 ml_X4_146 cf_X6_period st_X6_period rfl rfl (Nat.le_of_ble_eq_true rfl) ⟨Nat.le_of_ble_eq_true rfl, Nat.le_of_ble_eq_true rfl⟩ rfl (fun q_4 => ?_)
      refine w_iload_n (q := 22) (i := 1) (j := 1) hc dX4_countPeriod_21 rfl rfl rfl ?_
      refine w_icmpne (q := 25) (tgt := 28) hc dX4_countPeriod_22 rfl rfl ?_ ?_
      · refine w_iincB (q := 28) (i := 2) (j := 2) (lv' := fun v2_6 => [(2, .int v2_6), (0, .ref 69), (1, .int v1_1), (3, .int v3_3)]) hc dX4_countPeriod_25 rfl ci_1 (hN 2 rfl) (fun _ => rfl) rfl (fun v2_6 => ?_)
        refine w_iincB (q := 31) (i := 3) (j := 3) (lv' := fun v3_7 => [(3, .int v3_7), (2, .int v2_6), (0, .ref 69), (1, .int v1_1)]) hc dX4_countPeriod_28 rfl ci_1 (hN 3 rfl) (fun _ => rfl) rfl (fun v3_7 => ?_)
        refine w_goto (tgt := 4) hc dX4_countPeriod_31 rfl ?_
        refine w_sub [2, 3, 1, 0] rfl ?_
        exact ih v2_6 v3_7
      · refine w_iincB (q := 31) (i := 3) (j := 3) (lv' := fun v3_5 => [(3, .int v3_5), (0, .ref 69), (1, .int v1_1), (2, .int v2_2)]) hc dX4_countPeriod_28 rfl ci_1 (hN 3 rfl) (fun _ => rfl) rfl (fun v3_5 => ?_)
        refine w_goto (tgt := 4) hc dX4_countPeriod_31 rfl ?_
        refine w_sub [1, 2, 3, 0] rfl ?_
        exact ih v2_2 v3_5
set_option maxRecDepth 100000 in
set_option maxHeartbeats 4000000 in
theorem m_X4_countPeriod {l : Launch} {K : KT} {R : MR} {rm : Nat} {a1 : Int32} {I : MI} {L : ML} (hK0 : K = lK rm) (hR0 : R = lR rm) (hrm : rm ≠ 0) : MFg l yX4_countPeriod cX4_countPeriod 4 (some .int) 2 49 [.ref 69, .int a1] K R I L anI (meR I L) (f_X4_countPeriod rm a1 I L) := by
  refine mf_of (plainFor_of_name (by decide)) (Nat.le_of_ble_eq_true rfl) ?_
  intro G hc _ hK1 hR1 hn hq
  have hK := hK1.trans hK0
  have hR := hR1.trans hR0
  have hN : ∀ i, Nat.blt i 4 = true → i < gnL G := fun i h => hn ▸ Nat.blt_eq.mp h
  unfold f_X4_countPeriod
  show WW G 0 [(0, .ref 69), (1, .int a1)] [] I L _
  refine w_iconst (q := 1) hc dX4_countPeriod_0 ci_0 rfl ?_
  refine w_istore_n (q := 2) (i := 2) (lv' := [(2, .int 0), (0, .ref 69), (1, .int a1)]) hc dX4_countPeriod_1 rfl (hN 2 rfl) rfl rfl ?_
  refine w_iconst (q := 3) hc dX4_countPeriod_2 ci_0 rfl ?_
  refine w_istore_n (q := 4) (i := 3) (lv' := [(3, .int 0), (2, .int 0), (0, .ref 69), (1, .int a1)]) hc dX4_countPeriod_3 rfl (hN 3 rfl) rfl rfl ?_
  refine w_sub [2, 3, 1, 0] rfl ?_
  exact wl_X4_countPeriod_4 rm a1 I L hc hq hK hR hn hrm FU 0 0
set_option maxRecDepth 100000 in
set_option maxHeartbeats 4000000 in
theorem wl_X4_fewestMoved_4 {G : GT Int32} (rm : Nat) (I : MI) (L : ML) (hc : Cx G cX4_fewestMoved yX4_fewestMoved.cls (some .int) 1 21) (hq : RetQ G anI (meR I L)) (hK : gK G = lK rm) (hR : gR G = lR rm) (hn : gnL G = 4) (hrm : rm ≠ 0) : ∀ (n : Nat) (v1_1 : Int32) (v2_2 : Int32), WW G 4 [(0, .ref 69), (1, .int v1_1), (2, .int v2_2)] [] I L (f_X4_fewestMoved_4 rm I L n v1_1 v2_2) := by
  have hN : ∀ i, Nat.blt i 4 = true → i < gnL G := fun i h => hn ▸ Nat.blt_eq.mp h
  intro n
  induction n with
  | zero => intros; exact w_none _ _ _
  | succ n ih =>
    intros v1_1 v2_2
    rw [f_X4_fewestMoved_4]
    refine w_iload_n (q := 5) (i := 2) (j := 2) hc dX4_fewestMoved_4 rfl rfl rfl ?_
    refine w_aload_n (q := 6) (i := 0) (j := 0) hc dX4_fewestMoved_5 rfl rfl rfl ?_
    refine gf_X4_9 (q := 9) hc dX4_fewestMoved_6 (k_69 hK hrm) rfl ?_
    refine w_icmpge (q := 12) (tgt := 48) hc dX4_fewestMoved_9 rfl rfl ?_ ?_
    · refine w_iload_n (q := 49) (i := 1) (j := 1) hc dX4_fewestMoved_48 rfl rfl rfl ?_
      exact w_ireturn (v := v1_1) hc hq dX4_fewestMoved_49 rfl rfl rfl
    · refine w_aload_n (q := 13) (i := 0) (j := 0) hc dX4_fewestMoved_12 rfl rfl rfl ?_
      refine gf_X4_21 (q := 16) hc dX4_fewestMoved_13 (k_69 hK hrm) rfl ?_
      refine w_aload_n (q := 17) (i := 0) (j := 0) hc dX4_fewestMoved_16 rfl rfl rfl ?_
      refine gf_X4_57 (q := 20) hc dX4_fewestMoved_17 (k_69 hK hrm) (r_69_7 hR) rfl ?_
      refine w_iload_n (q := 21) (i := 2) (j := 2) hc dX4_fewestMoved_20 rfl rfl rfl ?_
      refine w_lald (q := 22) hc dX4_fewestMoved_21 (k_73 hK hrm) rfl ?_
      refine w_callS_Ri (q := 25) (st := [.int (I 69 11)]) (args := [.long (L 73 (ix v2_2))]) hc (m_X6_staying hK hR) dX4_fewestMoved_22 ml_X4_143 cf_X6_staying st_X6_staying rfl rfl (Nat.le_of_ble_eq_true rfl) ⟨Nat.le_of_ble_eq_true rfl, Nat.le_of_ble_eq_true rfl⟩ rfl (fun q_3 => ?_)
      refine w_isub (q := 26) hc dX4_fewestMoved_25  rfl ?_
      refine w_istore_nB (q := 27) (i := 3) (lv' := fun v3_4 => [(3, .int v3_4), (0, .ref 69), (1, .int v1_1), (2, .int v2_2)]) hc dX4_fewestMoved_26 rfl (hN 3 rfl) (fun _ => rfl) rfl (fun v3_4 => ?_)
      refine w_iload_n (q := 28) (i := 3) (j := 0) hc dX4_fewestMoved_27 rfl rfl rfl ?_
      refine w_ifle (q := 31) (tgt := 42) hc dX4_fewestMoved_28 rfl rfl ?_ ?_
      · refine w_iincB (q := 45) (i := 2) (j := 3) (lv' := fun v2_5 => [(2, .int v2_5), (3, .int v3_4), (0, .ref 69), (1, .int v1_1)]) hc dX4_fewestMoved_42 rfl ci_1 (hN 2 rfl) (fun _ => rfl) rfl (fun v2_5 => ?_)
        refine w_goto (tgt := 4) hc dX4_fewestMoved_45 rfl ?_
        refine w_sub [2, 3, 0] rfl ?_
        exact ih v1_1 v2_5
      · refine w_iload_n (q := 32) (i := 1) (j := 2) hc dX4_fewestMoved_31 rfl rfl rfl ?_
        refine w_ifeq (q := 35) (tgt := 40) hc dX4_fewestMoved_32 rfl rfl ?_ ?_
        · refine w_iload_n (q := 41) (i := 3) (j := 0) hc dX4_fewestMoved_40 rfl rfl rfl ?_
          refine w_istore_n (q := 42) (i := 1) (lv' := [(1, .int v3_4), (3, .int v3_4), (0, .ref 69), (2, .int v2_2)]) hc dX4_fewestMoved_41 rfl (hN 1 rfl) rfl rfl ?_
          refine w_iincB (q := 45) (i := 2) (j := 3) (lv' := fun v2_6 => [(2, .int v2_6), (1, .int v3_4), (3, .int v3_4), (0, .ref 69)]) hc dX4_fewestMoved_42 rfl ci_1 (hN 2 rfl) (fun _ => rfl) rfl (fun v2_6 => ?_)
          refine w_goto (tgt := 4) hc dX4_fewestMoved_45 rfl ?_
          refine w_sub [3, 1, 0] rfl ?_
          exact ih v3_4 v2_6
        · refine w_iload_n (q := 36) (i := 3) (j := 0) hc dX4_fewestMoved_35 rfl rfl rfl ?_
          refine w_iload_n (q := 37) (i := 1) (j := 2) hc dX4_fewestMoved_36 rfl rfl rfl ?_
          refine w_icmpge (q := 40) (tgt := 42) hc dX4_fewestMoved_37 rfl rfl ?_ ?_
          · refine w_iincB (q := 45) (i := 2) (j := 3) (lv' := fun v2_7 => [(2, .int v2_7), (3, .int v3_4), (0, .ref 69), (1, .int v1_1)]) hc dX4_fewestMoved_42 rfl ci_1 (hN 2 rfl) (fun _ => rfl) rfl (fun v2_7 => ?_)
            refine w_goto (tgt := 4) hc dX4_fewestMoved_45 rfl ?_
            refine w_sub [2, 3, 0] rfl ?_
            exact ih v1_1 v2_7
          · refine w_iload_n (q := 41) (i := 3) (j := 0) hc dX4_fewestMoved_40 rfl rfl rfl ?_
            refine w_istore_n (q := 42) (i := 1) (lv' := [(1, .int v3_4), (3, .int v3_4), (0, .ref 69), (2, .int v2_2)]) hc dX4_fewestMoved_41 rfl (hN 1 rfl) rfl rfl ?_
            refine w_iincB (q := 45) (i := 2) (j := 3) (lv' := fun v2_8 => [(2, .int v2_8), (1, .int v3_4), (3, .int v3_4), (0, .ref 69)]) hc dX4_fewestMoved_42 rfl ci_1 (hN 2 rfl) (fun _ => rfl) rfl (fun v2_8 => ?_)
            refine w_goto (tgt := 4) hc dX4_fewestMoved_45 rfl ?_
            refine w_sub [3, 1, 0] rfl ?_
            exact ih v3_4 v2_8
set_option maxRecDepth 100000 in
set_option maxHeartbeats 4000000 in
theorem m_X4_fewestMoved {l : Launch} {K : KT} {R : MR} {rm : Nat} {I : MI} {L : ML} (hK0 : K = lK rm) (hR0 : R = lR rm) (hrm : rm ≠ 0) : MFg l yX4_fewestMoved cX4_fewestMoved 4 (some .int) 1 21 [.ref 69] K R I L anI (meR I L) (f_X4_fewestMoved rm I L) := by
  refine mf_of (plainFor_of_name (by decide)) (Nat.le_of_ble_eq_true rfl) ?_
  intro G hc _ hK1 hR1 hn hq
  have hK := hK1.trans hK0
  have hR := hR1.trans hR0
  have hN : ∀ i, Nat.blt i 4 = true → i < gnL G := fun i h => hn ▸ Nat.blt_eq.mp h
  unfold f_X4_fewestMoved
  show WW G 0 [(0, .ref 69)] [] I L _
  refine w_iconst (q := 1) hc dX4_fewestMoved_0 ci_0 rfl ?_
  refine w_istore_n (q := 2) (i := 1) (lv' := [(1, .int 0), (0, .ref 69)]) hc dX4_fewestMoved_1 rfl (hN 1 rfl) rfl rfl ?_
  refine w_iconst (q := 3) hc dX4_fewestMoved_2 ci_0 rfl ?_
  refine w_istore_n (q := 4) (i := 2) (lv' := [(2, .int 0), (1, .int 0), (0, .ref 69)]) hc dX4_fewestMoved_3 rfl (hN 2 rfl) rfl rfl ?_
  refine w_sub [2, 1, 0] rfl ?_
  exact wl_X4_fewestMoved_4 rm I L hc hq hK hR hn hrm FU 0 0
set_option maxRecDepth 100000 in
set_option maxHeartbeats 4000000 in
theorem wl_X4_countColourings_32 {G : GT Int64} (rm : Nat) (v1_5 : Int32) (v2_6 : Int64) (v4_7 : Int32) (v7_9 : Int32) (I : MI) (L : ML) (hc : Cx G cX4_countColourings yX4_countColourings.cls (some .long) 1 23) (hq : RetQ G anL (meR I L)) (hK : gK G = lK rm) (hR : gR G = lR rm) (hn : gnL G = 9) (hrm : rm ≠ 0) (k0 : Int64 → Option Int64) (hk0 : ∀ (v5_13 : Int64), WW G 52 [(0, .ref 69), (1, .int v1_5), (2, .long v2_6), (4, .int v4_7), (5, .long v5_13)] [] I L (k0 v5_13)) : ∀ (n : Nat) (v5_8 : Int64) (v8_10 : Int32), WW G 32 [(0, .ref 69), (1, .int v1_5), (2, .long v2_6), (4, .int v4_7), (5, .long v5_8), (7, .int v7_9), (8, .int v8_10)] [] I L (f_X4_countColourings_32 rm v1_5 v2_6 v4_7 v7_9 I L k0 n v5_8 v8_10) := by
  have hN : ∀ i, Nat.blt i 9 = true → i < gnL G := fun i h => hn ▸ Nat.blt_eq.mp h
  intro n
  induction n with
  | zero => intros; exact w_none _ _ _
  | succ n ih =>
    intros v5_8 v8_10
    rw [f_X4_countColourings_32]
    refine w_iload (q := 34) (i := 8) (j := 6) hc dX4_countColourings_32 rfl rfl ?_
    refine w_iload (q := 36) (i := 7) (j := 5) hc dX4_countColourings_34 rfl rfl ?_
    refine w_icmpge (q := 39) (tgt := 52) hc dX4_countColourings_36 rfl rfl ?_ ?_
    · refine w_sub [0, 1, 2, 3, 4] rfl ?_
      exact hk0 v5_8
    · refine w_lload (q := 41) (i := 5) (j := 4) hc dX4_countColourings_39 rfl rfl ?_
      refine w_iload_n (q := 42) (i := 1) (j := 1) hc dX4_countColourings_41 rfl rfl rfl ?_
      refine w_i2l (q := 43) hc dX4_countColourings_42  rfl ?_
      refine w_lmul (q := 44) hc dX4_countColourings_43  rfl ?_
      refine w_lstoreB (q := 46) (i := 5) (lv' := fun v5_11 => [(5, .long v5_11), (0, .ref 69), (1, .int v1_5), (2, .long v2_6), (4, .int v4_7), (7, .int v7_9), (8, .int v8_10)]) hc dX4_countColourings_44 (hN 6 rfl) (fun _ => rfl) rfl (fun v5_11 => ?_)
      refine w_iincB (q := 49) (i := 8) (j := 6) (lv' := fun v8_12 => [(8, .int v8_12), (5, .long v5_11), (0, .ref 69), (1, .int v1_5), (2, .long v2_6), (4, .int v4_7), (7, .int v7_9)]) hc dX4_countColourings_46 rfl ci_1 (hN 8 rfl) (fun _ => rfl) rfl (fun v8_12 => ?_)
      refine w_goto (tgt := 32) hc dX4_countColourings_49 rfl ?_
      refine w_sub [2, 3, 4, 5, 1, 6, 0] rfl ?_
      exact ih v5_11 v8_12
set_option maxRecDepth 100000 in
set_option maxHeartbeats 4000000 in
theorem wl_X4_countColourings_5 {G : GT Int64} (rm : Nat) (v1_1 : Int32) (I : MI) (L : ML) (hc : Cx G cX4_countColourings yX4_countColourings.cls (some .long) 1 23) (hq : RetQ G anL (meR I L)) (hK : gK G = lK rm) (hR : gR G = lR rm) (hn : gnL G = 9) (hrm : rm ≠ 0) (k0 : Int64 → Option Int64) (hk0 : ∀ (v2_16 : Int64), WW G 63 [(0, .ref 69), (2, .long v2_16)] [] I L (k0 v2_16)) : ∀ (n : Nat) (v2_2 : Int64) (v4_3 : Int32), WW G 5 [(0, .ref 69), (1, .int v1_1), (2, .long v2_2), (4, .int v4_3)] [] I L (f_X4_countColourings_5 rm v1_1 I L k0 n v2_2 v4_3) := by
  have hN : ∀ i, Nat.blt i 9 = true → i < gnL G := fun i h => hn ▸ Nat.blt_eq.mp h
  intro n
  induction n with
  | zero => intros; exact w_none _ _ _
  | succ n ih =>
    intros v2_2 v4_3
    rw [f_X4_countColourings_5]
    refine w_iload (q := 7) (i := 4) (j := 3) hc dX4_countColourings_5 rfl rfl ?_
    refine w_aload_n (q := 8) (i := 0) (j := 0) hc dX4_countColourings_7 rfl rfl rfl ?_
    refine gf_X4_9 (q := 11) hc dX4_countColourings_8 (k_69 hK hrm) rfl ?_
    refine w_icmpge (q := 14) (tgt := 63) hc dX4_countColourings_11 rfl rfl ?_ ?_
    · refine w_sub [0, 2] rfl ?_
      exact hk0 v2_2
    · refine w_lconst (q := 15) hc dX4_countColourings_14 cl_1 rfl ?_
      refine w_lstore (q := 17) (i := 5) (lv' := [(5, .long 1), (0, .ref 69), (1, .int v1_1), (2, .long v2_2), (4, .int v4_3)]) hc dX4_countColourings_15 (hN 6 rfl) rfl rfl ?_
      refine w_aload_n (q := 18) (i := 0) (j := 1) hc dX4_countColourings_17 rfl rfl rfl ?_
      refine gf_X4_57 (q := 21) hc dX4_countColourings_18 (k_69 hK hrm) (r_69_7 hR) rfl ?_
      refine w_iload (q := 23) (i := 4) (j := 4) hc dX4_countColourings_21 rfl rfl ?_
      refine w_lald (q := 24) hc dX4_countColourings_23 (k_73 hK hrm) rfl ?_
      refine w_callS_Ri (q := 27) (st := []) (args := [.long (L 73 (ix v4_3))]) hc (m_X6_cycles hK hR) dX4_countColourings_24 ml_X4_149 cf_X6_cycles st_X6_cycles rfl rfl (Nat.le_of_ble_eq_true rfl) ⟨Nat.le_of_ble_eq_true rfl, Nat.le_of_ble_eq_true rfl⟩ rfl (fun q_4 => ?_)
      refine w_istore (q := 29) (i := 7) (lv' := [(7, .int q_4), (5, .long 1), (0, .ref 69), (1, .int v1_1), (2, .long v2_2), (4, .int v4_3)]) hc dX4_countColourings_27 (hN 7 rfl) rfl rfl ?_
      refine w_iconst (q := 30) hc dX4_countColourings_29 ci_0 rfl ?_
      refine w_istore (q := 32) (i := 8) (lv' := [(8, .int 0), (7, .int q_4), (5, .long 1), (0, .ref 69), (1, .int v1_1), (2, .long v2_2), (4, .int v4_3)]) hc dX4_countColourings_30 (hN 8 rfl) rfl rfl ?_
      refine w_sub [3, 4, 5, 6, 2, 1, 0] rfl ?_
      refine wl_X4_countColourings_32 rm v1_1 v2_2 v4_3 q_4 I L hc hq hK hR hn hrm _ ?_ FU 1 0
      intro v5_13
      refine w_lload_n (q := 53) (i := 2) (j := 2) hc dX4_countColourings_52 rfl rfl rfl ?_
      refine w_lload (q := 55) (i := 5) (j := 4) hc dX4_countColourings_53 rfl rfl ?_
      refine w_ladd (q := 56) hc dX4_countColourings_55  rfl ?_
      refine w_lstore_nB (q := 57) (i := 2) (lv' := fun v2_14 => [(2, .long v2_14), (0, .ref 69), (1, .int v1_1), (4, .int v4_3), (5, .long v5_13)]) hc dX4_countColourings_56 rfl (hN 3 rfl) (fun _ => rfl) rfl (fun v2_14 => ?_)
      refine w_iincB (q := 60) (i := 4) (j := 3) (lv' := fun v4_15 => [(4, .int v4_15), (2, .long v2_14), (0, .ref 69), (1, .int v1_1), (5, .long v5_13)]) hc dX4_countColourings_57 rfl ci_1 (hN 4 rfl) (fun _ => rfl) rfl (fun v4_15 => ?_)
      refine w_goto (tgt := 5) hc dX4_countColourings_60 rfl ?_
      refine w_sub [2, 3, 1, 0] rfl ?_
      exact ih v2_14 v4_15
set_option maxRecDepth 100000 in
set_option maxHeartbeats 4000000 in
theorem m_X4_countColourings {l : Launch} {K : KT} {R : MR} {rm : Nat} {a1 : Int32} {I : MI} {L : ML} (hK0 : K = lK rm) (hR0 : R = lR rm) (hrm : rm ≠ 0) : MFg l yX4_countColourings cX4_countColourings 9 (some .long) 1 23 [.ref 69, .int a1] K R I L anL (meR I L) (f_X4_countColourings rm a1 I L) := by
  refine mf_of (plainFor_of_name (by decide)) (Nat.le_of_ble_eq_true rfl) ?_
  intro G hc _ hK1 hR1 hn hq
  have hK := hK1.trans hK0
  have hR := hR1.trans hR0
  have hN : ∀ i, Nat.blt i 9 = true → i < gnL G := fun i h => hn ▸ Nat.blt_eq.mp h
  unfold f_X4_countColourings
  show WW G 0 [(0, .ref 69), (1, .int a1)] [] I L _
  refine w_lconst (q := 1) hc dX4_countColourings_0 cl_0 rfl ?_
  refine w_lstore_n (q := 2) (i := 2) (lv' := [(2, .long 0), (0, .ref 69), (1, .int a1)]) hc dX4_countColourings_1 rfl (hN 3 rfl) rfl rfl ?_
  refine w_iconst (q := 3) hc dX4_countColourings_2 ci_0 rfl ?_
  refine w_istore (q := 5) (i := 4) (lv' := [(4, .int 0), (2, .long 0), (0, .ref 69), (1, .int a1)]) hc dX4_countColourings_3 (hN 4 rfl) rfl rfl ?_
  refine w_sub [2, 3, 1, 0] rfl ?_
  refine wl_X4_countColourings_5 rm a1 I L hc hq hK hR hn hrm _ ?_ FU 0 0
  intro v2_16
  refine w_aload_n (q := 64) (i := 0) (j := 0) hc dX4_countColourings_63 rfl rfl rfl ?_
  refine gf_X4_9 (q := 67) hc dX4_countColourings_64 (k_69 hK hrm) rfl ?_
  refine w_ifle (q := 70) (tgt := 80) hc dX4_countColourings_67 rfl rfl ?_ ?_
  · refine w_lconst (q := 81) hc dX4_countColourings_80 cl_0 rfl ?_
    exact w_lreturn hc hq dX4_countColourings_81 rfl rfl
  · refine w_lload_n (q := 71) (i := 2) (j := 1) hc dX4_countColourings_70 rfl rfl rfl ?_
    refine w_aload_n (q := 72) (i := 0) (j := 0) hc dX4_countColourings_71 rfl rfl rfl ?_
    refine gf_X4_9 (q := 75) hc dX4_countColourings_72 (k_69 hK hrm) rfl ?_
    refine w_i2l (q := 76) hc dX4_countColourings_75  rfl ?_
    refine w_ldiv (q := 77) hc dX4_countColourings_76  rfl ?_
    refine w_goto (tgt := 81) hc dX4_countColourings_77 rfl ?_
    exact w_lreturn hc hq dX4_countColourings_81 rfl rfl
