set_option maxRecDepth 100000 in
set_option maxHeartbeats 4000000 in
theorem wl_X8_joins_18 {G : GT (Bool × Mm)} {rm : Nat} (v3_3 : Int32) (v4_4 : Int32) (L : ML) (hc : Cx G cX8_joins yX8_joins.cls (some .boolean) 0 0) (hq : RetQ G anZW meW) (hK : gK G = lK rm) (hR : gR G = lR rm) (hn : gnL G = 6) (k0 : MI → Option (Bool × Mm)) (hk0 : ∀ (I_11 : MI), WW G 61 [(3, .int v3_3), (4, .int v4_4)] [] I_11 L (k0 I_11)) : ∀ (n : Nat) (v5_5 : Int32) (I_6 : MI), WW G 18 [(0, .ref 43), (3, .int v3_3), (4, .int v4_4), (5, .int v5_5)] [] I_6 L (f_X8_joins_18 v3_3 v4_4 L k0 n v5_5 I_6) := by
  have hN : ∀ i, Nat.blt i 6 = true → i < gnL G := fun i h => hn ▸ Nat.blt_eq.mp h
  intro n
  induction n with
  | zero => intros; exact w_none _ _ _
  | succ n ih =>
    intros v5_5 I_6
    rw [f_X8_joins_18]
    refine w_iload (q := 20) (i := 5) (j := 3) hc dX8_joins_18 rfl rfl ?_
    refine w_bipush (q := 22) hc dX8_joins_20 cb_10 rfl ?_
    refine w_icmpge (q := 25) (tgt := 61) hc dX8_joins_22 rfl rfl ?_ ?_
    · refine w_sub [1, 2] rfl ?_
      exact hk0 I_6
    · refine w_aload_n (q := 26) (i := 0) (j := 0) hc dX8_joins_25 rfl rfl rfl ?_
      refine gf_X8_72 (q := 29) hc dX8_joins_26 (k_43 hK) (r_43_26 hR) rfl ?_
      refine w_iload (q := 31) (i := 5) (j := 3) hc dX8_joins_29 rfl rfl ?_
      refine w_aload_n (q := 32) (i := 0) (j := 0) hc dX8_joins_31 rfl rfl rfl ?_
      refine gf_X8_72 (q := 35) hc dX8_joins_32 (k_43 hK) (r_43_26 hR) rfl ?_
      refine w_iload (q := 37) (i := 5) (j := 3) hc dX8_joins_35 rfl rfl ?_
      refine w_iald (q := 38) hc dX8_joins_37 (k_64 hK) rfl ?_
      refine w_iload (q := 40) (i := 4) (j := 2) hc dX8_joins_38 rfl rfl ?_
      refine w_icmpne (q := 43) (tgt := 47) hc dX8_joins_40 rfl rfl ?_ ?_
      · refine w_iload_n (q := 44) (i := 3) (j := 1) hc dX8_joins_43 rfl rfl rfl ?_
        refine w_goto (tgt := 54) hc dX8_joins_44 rfl ?_
        refine w_iast (q := 55) hc dX8_joins_54 (k_64 hK) rfl (fun I_9 => ?_)
        refine w_iincB (q := 58) (i := 5) (j := 3) (lv' := fun v5_10 => [(5, .int v5_10), (0, .ref 43), (3, .int v3_3), (4, .int v4_4)]) hc dX8_joins_55 rfl ci_1 (hN 5 rfl) (fun _ => rfl) rfl (fun v5_10 => ?_)
        refine w_goto (tgt := 18) hc dX8_joins_58 rfl ?_
        refine w_sub [1, 2, 3, 0] rfl ?_
        exact ih v5_10 I_9
      · refine w_aload_n (q := 48) (i := 0) (j := 0) hc dX8_joins_47 rfl rfl rfl ?_
        refine gf_X8_72 (q := 51) hc dX8_joins_48 (k_43 hK) (r_43_26 hR) rfl ?_
        refine w_iload (q := 53) (i := 5) (j := 3) hc dX8_joins_51 rfl rfl ?_
        refine w_iald (q := 54) hc dX8_joins_53 (k_64 hK) rfl ?_
        refine w_iast (q := 55) hc dX8_joins_54 (k_64 hK) rfl (fun I_7 => ?_)
        refine w_iincB (q := 58) (i := 5) (j := 3) (lv' := fun v5_8 => [(5, .int v5_8), (0, .ref 43), (3, .int v3_3), (4, .int v4_4)]) hc dX8_joins_55 rfl ci_1 (hN 5 rfl) (fun _ => rfl) rfl (fun v5_8 => ?_)
        refine w_goto (tgt := 18) hc dX8_joins_58 rfl ?_
        refine w_sub [1, 2, 3, 0] rfl ?_
        exact ih v5_8 I_7
set_option maxRecDepth 100000 in
set_option maxHeartbeats 4000000 in
theorem m_X8_joins {l : Launch} {K : KT} {R : MR} {rm : Nat} {a1 : Int32} {a2 : Int32} {I : MI} {L : ML} (hK0 : K = lK rm) (hR0 : R = lR rm) : MFg l yX8_joins cX8_joins 6 (some .boolean) 0 0 [.ref 43, .int a1, .int a2] K R I L anZW meW (f_X8_joins a1 a2 I L) := by
  refine mf_of (plainFor_of_name (by decide)) (Nat.le_of_ble_eq_true rfl) ?_
  intro G hc _ hK1 hR1 hn hq
  have hK := hK1.trans hK0
  have hR := hR1.trans hR0
  have hN : ∀ i, Nat.blt i 6 = true → i < gnL G := fun i h => hn ▸ Nat.blt_eq.mp h
  unfold f_X8_joins
  show WW G 0 [(0, .ref 43), (1, .int a1), (2, .int a2)] [] I L _
  refine w_aload_n (q := 1) (i := 0) (j := 0) hc dX8_joins_0 rfl rfl rfl ?_
  refine gf_X8_72 (q := 4) hc dX8_joins_1 (k_43 hK) (r_43_26 hR) rfl ?_
  refine w_iload_n (q := 5) (i := 1) (j := 1) hc dX8_joins_4 rfl rfl rfl ?_
  refine w_iald (q := 6) hc dX8_joins_5 (k_64 hK) rfl ?_
  refine w_istore_nB (q := 7) (i := 3) (lv' := fun v3_1 => [(3, .int v3_1), (0, .ref 43), (1, .int a1), (2, .int a2)]) hc dX8_joins_6 rfl (hN 3 rfl) (fun _ => rfl) rfl (fun v3_1 => ?_)
  refine w_aload_n (q := 8) (i := 0) (j := 1) hc dX8_joins_7 rfl rfl rfl ?_
  refine gf_X8_72 (q := 11) hc dX8_joins_8 (k_43 hK) (r_43_26 hR) rfl ?_
  refine w_iload_n (q := 12) (i := 2) (j := 3) hc dX8_joins_11 rfl rfl rfl ?_
  refine w_iald (q := 13) hc dX8_joins_12 (k_64 hK) rfl ?_
  refine w_istoreB (q := 15) (i := 4) (lv' := fun v4_2 => [(4, .int v4_2), (3, .int v3_1), (0, .ref 43), (1, .int a1), (2, .int a2)]) hc dX8_joins_13 (hN 4 rfl) (fun _ => rfl) rfl (fun v4_2 => ?_)
  refine w_iconst (q := 16) hc dX8_joins_15 ci_0 rfl ?_
  refine w_istore (q := 18) (i := 5) (lv' := [(5, .int 0), (4, .int v4_2), (3, .int v3_1), (0, .ref 43), (1, .int a1), (2, .int a2)]) hc dX8_joins_16 (hN 5 rfl) rfl rfl ?_
  refine w_sub [3, 2, 1, 0] rfl ?_
  refine wl_X8_joins_18 v3_1 v4_2 L hc hq hK hR hn _ ?_ FU 0 I
  intro I_11
  refine w_iload_n (q := 62) (i := 3) (j := 0) hc dX8_joins_61 rfl rfl rfl ?_
  refine w_iload (q := 64) (i := 4) (j := 1) hc dX8_joins_62 rfl rfl ?_
  refine w_icmpeq (q := 67) (tgt := 71) hc dX8_joins_64 rfl rfl ?_ ?_
  · refine w_iconst (q := 72) hc dX8_joins_71 ci_0 rfl ?_
    exact w_ireturn (v := b2i false) hc hq dX8_joins_72 (nar_b2i false) rfl rfl
  · refine w_iconst (q := 68) hc dX8_joins_67 ci_1 rfl ?_
    refine w_goto (tgt := 72) hc dX8_joins_68 rfl ?_
    exact w_ireturn (v := b2i true) hc hq dX8_joins_72 (nar_b2i true) rfl rfl
set_option maxRecDepth 100000 in
set_option maxHeartbeats 4000000 in
theorem wl_X8_blockOf_49 {G : GT (Int32 × Mm)} {rm : Nat} (v1_19 : Int32) (v4_21 : Int32) (v5_22 : Int32) (hc : Cx G cX8_blockOf yX8_blockOf.cls (some .int) 1 25) (hq : RetQ G anIW meW) (hK : gK G = lK rm) (hR : gR G = lR rm) (hn : gnL G = 7) (k0 : Int32 → MI → ML → Option (Int32 × Mm)) (hk0 : ∀ (v3_30 : Int32) (I_31 : MI) (L_32 : ML), WW G 118 [(0, .ref 43), (1, .int v1_19), (3, .int v3_30), (4, .int v4_21), (5, .int v5_22)] [] I_31 L_32 (k0 v3_30 I_31 L_32)) : ∀ (n : Nat) (v3_20 : Int32) (v6_23 : Int32) (I_24 : MI) (L_25 : ML), WW G 49 [(0, .ref 43), (1, .int v1_19), (3, .int v3_20), (4, .int v4_21), (5, .int v5_22), (6, .int v6_23)] [] I_24 L_25 (f_X8_blockOf_49 v1_19 v4_21 v5_22 k0 n v3_20 v6_23 I_24 L_25) := by
  have hN : ∀ i, Nat.blt i 7 = true → i < gnL G := fun i h => hn ▸ Nat.blt_eq.mp h
  intro n
  induction n with
  | zero => intros; exact w_none _ _ _
  | succ n ih =>
    intros v3_20 v6_23 I_24 L_25
    rw [f_X8_blockOf_49]
    refine w_iload (q := 51) (i := 6) (j := 5) hc dX8_blockOf_49 rfl rfl ?_
    refine w_iload (q := 53) (i := 5) (j := 4) hc dX8_blockOf_51 rfl rfl ?_
    refine w_icmpge (q := 56) (tgt := 118) hc dX8_blockOf_53 rfl rfl ?_ ?_
    · refine w_sub [0, 1, 2, 3, 4] rfl ?_
      exact hk0 v3_20 I_24 L_25
    · refine w_aload_n (q := 57) (i := 0) (j := 0) hc dX8_blockOf_56 rfl rfl rfl ?_
      refine gf_X8_72 (q := 60) hc dX8_blockOf_57 (k_43 hK) (r_43_26 hR) rfl ?_
      refine w_iload (q := 62) (i := 5) (j := 4) hc dX8_blockOf_60 rfl rfl ?_
      refine w_iald (q := 63) hc dX8_blockOf_62 (k_64 hK) rfl ?_
      refine w_aload_n (q := 64) (i := 0) (j := 0) hc dX8_blockOf_63 rfl rfl rfl ?_
      refine gf_X8_72 (q := 67) hc dX8_blockOf_64 (k_43 hK) (r_43_26 hR) rfl ?_
      refine w_iload (q := 69) (i := 6) (j := 5) hc dX8_blockOf_67 rfl rfl ?_
      refine w_iald (q := 70) hc dX8_blockOf_69 (k_64 hK) rfl ?_
      refine w_icmpne (q := 73) (tgt := 112) hc dX8_blockOf_70 rfl rfl ?_ ?_
      · refine w_iload_n (q := 74) (i := 3) (j := 2) hc dX8_blockOf_73 rfl rfl rfl ?_
        refine w_aload_n (q := 75) (i := 0) (j := 0) hc dX8_blockOf_74 rfl rfl rfl ?_
        refine w_aload_n (q := 76) (i := 0) (j := 0) hc dX8_blockOf_75 rfl rfl rfl ?_
        refine gf_X8_7 (q := 79) hc dX8_blockOf_76 (k_43 hK) (r_43_4 hR) rfl ?_
        refine w_bipush (q := 81) hc dX8_blockOf_79 cb_11 rfl ?_
        refine w_bipush (q := 83) hc dX8_blockOf_81 cb_10 rfl ?_
        refine w_iload (q := 85) (i := 4) (j := 3) hc dX8_blockOf_83 rfl rfl ?_
        refine w_imul (q := 86) hc dX8_blockOf_85  rfl ?_
        refine w_iadd (q := 87) hc dX8_blockOf_86  rfl ?_
        refine w_iload (q := 89) (i := 5) (j := 4) hc dX8_blockOf_87 rfl rfl ?_
        refine w_iadd (q := 90) hc dX8_blockOf_89  rfl ?_
        refine w_iald (q := 91) hc dX8_blockOf_90 (k_44 hK) rfl ?_
        refine w_aload_n (q := 92) (i := 0) (j := 0) hc dX8_blockOf_91 rfl rfl rfl ?_
        refine gf_X8_7 (q := 95) hc dX8_blockOf_92 (k_43 hK) (r_43_4 hR) rfl ?_
        refine w_bipush (q := 97) hc dX8_blockOf_95 cb_11 rfl ?_
        refine w_bipush (q := 99) hc dX8_blockOf_97 cb_10 rfl ?_
        refine w_iload (q := 101) (i := 4) (j := 3) hc dX8_blockOf_99 rfl rfl ?_
        refine w_imul (q := 102) hc dX8_blockOf_101  rfl ?_
        refine w_iadd (q := 103) hc dX8_blockOf_102  rfl ?_
        refine w_iload (q := 105) (i := 6) (j := 5) hc dX8_blockOf_103 rfl rfl ?_
        refine w_iadd (q := 106) hc dX8_blockOf_105  rfl ?_
        refine w_iald (q := 107) hc dX8_blockOf_106 (k_44 hK) rfl ?_
        refine w_callV_Wz (q := 110) (st := [.int v3_20]) (args := [.int (I_24 44 (ix ((11 + (10 * v4_21)) + v5_22))), .int (I_24 44 (ix ((11 + (10 * v4_21)) + v6_23)))]) (p := 43) hc (m_X8_joins hK hR) dX8_blockOf_107 ml_X8_377 cf_X8_joins iv_X8_joins (k_43 hK) (C := RX8) (T := TX8) (N := 45) rfl rfl (Nat.lt_of_succ_le (Nat.le_of_ble_eq_true rfl)) rfl rfl (Nat.le_of_ble_eq_true rfl) ⟨Nat.le_of_ble_eq_true rfl, Nat.le_of_ble_eq_true rfl⟩ rfl (fun q_27 => ?_)
        refine w_ior (q := 111) hc dX8_blockOf_110  rfl ?_
        refine w_istore_nB (q := 112) (i := 3) (lv' := fun v3_28 => [(3, .int v3_28), (0, .ref 43), (1, .int v1_19), (4, .int v4_21), (5, .int v5_22), (6, .int v6_23)]) hc dX8_blockOf_111 rfl (hN 3 rfl) (fun _ => rfl) rfl (fun v3_28 => ?_)
        refine w_iincB (q := 115) (i := 6) (j := 5) (lv' := fun v6_29 => [(6, .int v6_29), (3, .int v3_28), (0, .ref 43), (1, .int v1_19), (4, .int v4_21), (5, .int v5_22)]) hc dX8_blockOf_112 rfl ci_1 (hN 6 rfl) (fun _ => rfl) rfl (fun v6_29 => ?_)
        refine w_goto (tgt := 49) hc dX8_blockOf_115 rfl ?_
        refine w_sub [2, 3, 1, 4, 5, 0] rfl ?_
        exact ih v3_28 v6_29 q_27.2.1 q_27.2.2
      · refine w_iincB (q := 115) (i := 6) (j := 5) (lv' := fun v6_26 => [(6, .int v6_26), (0, .ref 43), (1, .int v1_19), (3, .int v3_20), (4, .int v4_21), (5, .int v5_22)]) hc dX8_blockOf_112 rfl ci_1 (hN 6 rfl) (fun _ => rfl) rfl (fun v6_26 => ?_)
        refine w_goto (tgt := 49) hc dX8_blockOf_115 rfl ?_
        refine w_sub [1, 2, 3, 4, 5, 0] rfl ?_
        exact ih v3_20 v6_26 I_24 L_25
set_option maxRecDepth 100000 in
set_option maxHeartbeats 4000000 in
theorem wl_X8_blockOf_37 {G : GT (Int32 × Mm)} {rm : Nat} (v1_13 : Int32) (v4_15 : Int32) (hc : Cx G cX8_blockOf yX8_blockOf.cls (some .int) 1 25) (hq : RetQ G anIW meW) (hK : gK G = lK rm) (hR : gR G = lR rm) (hn : gnL G = 7) (k0 : Int32 → MI → ML → Option (Int32 × Mm)) (hk0 : ∀ (v3_34 : Int32) (I_35 : MI) (L_36 : ML), WW G 124 [(0, .ref 43), (1, .int v1_13), (3, .int v3_34), (4, .int v4_15)] [] I_35 L_36 (k0 v3_34 I_35 L_36)) : ∀ (n : Nat) (v3_14 : Int32) (v5_16 : Int32) (I_17 : MI) (L_18 : ML), WW G 37 [(0, .ref 43), (1, .int v1_13), (3, .int v3_14), (4, .int v4_15), (5, .int v5_16)] [] I_17 L_18 (f_X8_blockOf_37 v1_13 v4_15 k0 n v3_14 v5_16 I_17 L_18) := by
  have hN : ∀ i, Nat.blt i 7 = true → i < gnL G := fun i h => hn ▸ Nat.blt_eq.mp h
  intro n
  induction n with
  | zero => intros; exact w_none _ _ _
  | succ n ih =>
    intros v3_14 v5_16 I_17 L_18
    rw [f_X8_blockOf_37]
    refine w_iload (q := 39) (i := 5) (j := 4) hc dX8_blockOf_37 rfl rfl ?_
    refine w_aload_n (q := 40) (i := 0) (j := 0) hc dX8_blockOf_39 rfl rfl rfl ?_
    refine gf_X8_118 (q := 43) hc dX8_blockOf_40 (k_43 hK) rfl ?_
    refine w_icmpge (q := 46) (tgt := 124) hc dX8_blockOf_43 rfl rfl ?_ ?_
    · refine w_sub [0, 1, 2, 3] rfl ?_
      exact hk0 v3_14 I_17 L_18
    · refine w_iconst (q := 47) hc dX8_blockOf_46 ci_0 rfl ?_
      refine w_istore (q := 49) (i := 6) (lv' := [(6, .int 0), (0, .ref 43), (1, .int v1_13), (3, .int v3_14), (4, .int v4_15), (5, .int v5_16)]) hc dX8_blockOf_47 (hN 6 rfl) rfl rfl ?_
      refine w_sub [1, 2, 3, 4, 5, 0] rfl ?_
      refine wl_X8_blockOf_49 v1_13 v4_15 v5_16 hc hq hK hR hn _ ?_ FU v3_14 0 I_17 L_18
      intro v3_30 I_31 L_32
      refine w_iincB (q := 121) (i := 5) (j := 4) (lv' := fun v5_33 => [(5, .int v5_33), (0, .ref 43), (1, .int v1_13), (3, .int v3_30), (4, .int v4_15)]) hc dX8_blockOf_118 rfl ci_1 (hN 5 rfl) (fun _ => rfl) rfl (fun v5_33 => ?_)
      refine w_goto (tgt := 37) hc dX8_blockOf_121 rfl ?_
      refine w_sub [1, 2, 3, 4, 0] rfl ?_
      exact ih v3_30 v5_33 I_31 L_32
set_option maxRecDepth 100000 in
set_option maxHeartbeats 4000000 in
theorem wl_X8_blockOf_25 {G : GT (Int32 × Mm)} {rm : Nat} (v1_7 : Int32) (hc : Cx G cX8_blockOf yX8_blockOf.cls (some .int) 1 25) (hq : RetQ G anIW meW) (hK : gK G = lK rm) (hR : gR G = lR rm) (hn : gnL G = 7) (k0 : Int32 → MI → ML → Option (Int32 × Mm)) (hk0 : ∀ (v3_38 : Int32) (I_39 : MI) (L_40 : ML), WW G 130 [(0, .ref 43), (1, .int v1_7), (3, .int v3_38)] [] I_39 L_40 (k0 v3_38 I_39 L_40)) : ∀ (n : Nat) (v3_8 : Int32) (v4_9 : Int32) (I_10 : MI) (L_11 : ML), WW G 25 [(0, .ref 43), (1, .int v1_7), (3, .int v3_8), (4, .int v4_9)] [] I_10 L_11 (f_X8_blockOf_25 v1_7 k0 n v3_8 v4_9 I_10 L_11) := by
  have hN : ∀ i, Nat.blt i 7 = true → i < gnL G := fun i h => hn ▸ Nat.blt_eq.mp h
  intro n
  induction n with
  | zero => intros; exact w_none _ _ _
  | succ n ih =>
    intros v3_8 v4_9 I_10 L_11
    rw [f_X8_blockOf_25]
    refine w_iload (q := 27) (i := 4) (j := 3) hc dX8_blockOf_25 rfl rfl ?_
    refine w_aload_n (q := 28) (i := 0) (j := 0) hc dX8_blockOf_27 rfl rfl rfl ?_
    refine w_callV_Ri (q := 31) (st := [.int v4_9]) (args := []) (p := 43) hc (m_X8_moves hK hR) dX8_blockOf_28 ml_X8_110 cf_X8_moves iv_X8_moves (k_43 hK) (C := RX8) (T := TX8) (N := 45) rfl rfl (Nat.lt_of_succ_le (Nat.le_of_ble_eq_true rfl)) rfl rfl (Nat.le_of_ble_eq_true rfl) ⟨Nat.le_of_ble_eq_true rfl, Nat.le_of_ble_eq_true rfl⟩ rfl (fun q_12 => ?_)
    refine w_icmpge (q := 34) (tgt := 130) hc dX8_blockOf_31 rfl rfl ?_ ?_
    · refine w_sub [0, 1, 2] rfl ?_
      exact hk0 v3_8 I_10 L_11
    · refine w_iconst (q := 35) hc dX8_blockOf_34 ci_0 rfl ?_
      refine w_istore (q := 37) (i := 5) (lv' := [(5, .int 0), (0, .ref 43), (1, .int v1_7), (3, .int v3_8), (4, .int v4_9)]) hc dX8_blockOf_35 (hN 5 rfl) rfl rfl ?_
      refine w_sub [1, 2, 3, 4, 0] rfl ?_
      refine wl_X8_blockOf_37 v1_7 v4_9 hc hq hK hR hn _ ?_ FU v3_8 0 I_10 L_11
      intro v3_34 I_35 L_36
      refine w_iincB (q := 127) (i := 4) (j := 3) (lv' := fun v4_37 => [(4, .int v4_37), (0, .ref 43), (1, .int v1_7), (3, .int v3_34)]) hc dX8_blockOf_124 rfl ci_1 (hN 4 rfl) (fun _ => rfl) rfl (fun v4_37 => ?_)
      refine w_goto (tgt := 25) hc dX8_blockOf_127 rfl ?_
      refine w_sub [1, 2, 3, 0] rfl ?_
      exact ih v3_34 v4_37 I_35 L_36
set_option maxRecDepth 100000 in
set_option maxHeartbeats 4000000 in
theorem wl_X8_blockOf_139 {G : GT (Int32 × Mm)} {rm : Nat} (v1_43 : Int32) (I : MI) (L : ML) (hc : Cx G cX8_blockOf yX8_blockOf.cls (some .int) 1 25) (hq : RetQ G anIW meW) (hK : gK G = lK rm) (hR : gR G = lR rm) (hn : gnL G = 7) : ∀ (n : Nat) (v4_44 : Int32) (v5_45 : Int32), WW G 139 [(0, .ref 43), (1, .int v1_43), (4, .int v4_44), (5, .int v5_45)] [] I L (f_X8_blockOf_139 v1_43 I L n v4_44 v5_45) := by
  have hN : ∀ i, Nat.blt i 7 = true → i < gnL G := fun i h => hn ▸ Nat.blt_eq.mp h
  intro n
  induction n with
  | zero => intros; exact w_none _ _ _
  | succ n ih =>
    intros v4_44 v5_45
    rw [f_X8_blockOf_139]
    refine w_iload (q := 141) (i := 5) (j := 3) hc dX8_blockOf_139 rfl rfl ?_
    refine w_aload_n (q := 142) (i := 0) (j := 0) hc dX8_blockOf_141 rfl rfl rfl ?_
    refine gf_X8_118 (q := 145) hc dX8_blockOf_142 (k_43 hK) rfl ?_
    refine w_icmpge (q := 148) (tgt := 183) hc dX8_blockOf_145 rfl rfl ?_ ?_
    · refine w_iload (q := 185) (i := 4) (j := 2) hc dX8_blockOf_183 rfl rfl ?_
      exact w_ireturn (v := v4_44) hc hq dX8_blockOf_185 rfl rfl rfl
    · refine w_iload (q := 150) (i := 4) (j := 2) hc dX8_blockOf_148 rfl rfl ?_
      refine w_aload_n (q := 151) (i := 0) (j := 0) hc dX8_blockOf_150 rfl rfl rfl ?_
      refine gf_X8_72 (q := 154) hc dX8_blockOf_151 (k_43 hK) (r_43_26 hR) rfl ?_
      refine w_iload (q := 156) (i := 5) (j := 3) hc dX8_blockOf_154 rfl rfl ?_
      refine w_iald (q := 157) hc dX8_blockOf_156 (k_64 hK) rfl ?_
      refine w_aload_n (q := 158) (i := 0) (j := 0) hc dX8_blockOf_157 rfl rfl rfl ?_
      refine gf_X8_72 (q := 161) hc dX8_blockOf_158 (k_43 hK) (r_43_26 hR) rfl ?_
      refine w_iload_n (q := 162) (i := 1) (j := 1) hc dX8_blockOf_161 rfl rfl rfl ?_
      refine w_iald (q := 163) hc dX8_blockOf_162 (k_64 hK) rfl ?_
      refine w_icmpne (q := 166) (tgt := 173) hc dX8_blockOf_163 rfl rfl ?_ ?_
      · refine w_iconst (q := 167) hc dX8_blockOf_166 ci_1 rfl ?_
        refine w_iload (q := 169) (i := 5) (j := 3) hc dX8_blockOf_167 rfl rfl ?_
        refine w_ishl (q := 170) hc dX8_blockOf_169  rfl ?_
        refine w_goto (tgt := 174) hc dX8_blockOf_170 rfl ?_
        refine w_ior (q := 175) hc dX8_blockOf_174  rfl ?_
        refine w_istoreB (q := 177) (i := 4) (lv' := fun v4_48 => [(4, .int v4_48), (0, .ref 43), (1, .int v1_43), (5, .int v5_45)]) hc dX8_blockOf_175 (hN 4 rfl) (fun _ => rfl) rfl (fun v4_48 => ?_)
        refine w_iincB (q := 180) (i := 5) (j := 3) (lv' := fun v5_49 => [(5, .int v5_49), (4, .int v4_48), (0, .ref 43), (1, .int v1_43)]) hc dX8_blockOf_177 rfl ci_1 (hN 5 rfl) (fun _ => rfl) rfl (fun v5_49 => ?_)
        refine w_goto (tgt := 139) hc dX8_blockOf_180 rfl ?_
        refine w_sub [2, 3, 1, 0] rfl ?_
        exact ih v4_48 v5_49
      · refine w_iconst (q := 174) hc dX8_blockOf_173 ci_0 rfl ?_
        refine w_ior (q := 175) hc dX8_blockOf_174  rfl ?_
        refine w_istoreB (q := 177) (i := 4) (lv' := fun v4_46 => [(4, .int v4_46), (0, .ref 43), (1, .int v1_43), (5, .int v5_45)]) hc dX8_blockOf_175 (hN 4 rfl) (fun _ => rfl) rfl (fun v4_46 => ?_)
        refine w_iincB (q := 180) (i := 5) (j := 3) (lv' := fun v5_47 => [(5, .int v5_47), (4, .int v4_46), (0, .ref 43), (1, .int v1_43)]) hc dX8_blockOf_177 rfl ci_1 (hN 5 rfl) (fun _ => rfl) rfl (fun v5_47 => ?_)
        refine w_goto (tgt := 139) hc dX8_blockOf_180 rfl ?_
        refine w_sub [2, 3, 1, 0] rfl ?_
        exact ih v4_46 v5_47
set_option maxRecDepth 100000 in
set_option maxHeartbeats 4000000 in
theorem wl_X8_blockOf_16 {G : GT (Int32 × Mm)} {rm : Nat} (v1_3 : Int32) (hc : Cx G cX8_blockOf yX8_blockOf.cls (some .int) 1 25) (hq : RetQ G anIW meW) (hK : gK G = lK rm) (hR : gR G = lR rm) (hn : gnL G = 7) (k0 : MI → ML → Option (Int32 × Mm)) (hk0 : ∀ (I_41 : MI) (L_42 : ML), WW G 133 [(0, .ref 43), (1, .int v1_3)] [] I_41 L_42 (k0 I_41 L_42)) : ∀ (n : Nat) (v3_4 : Int32) (I_5 : MI) (L_6 : ML), WW G 16 [(0, .ref 43), (1, .int v1_3), (3, .int v3_4)] [] I_5 L_6 (f_X8_blockOf_16 v1_3 k0 n v3_4 I_5 L_6) := by
  have hN : ∀ i, Nat.blt i 7 = true → i < gnL G := fun i h => hn ▸ Nat.blt_eq.mp h
  intro n
  induction n with
  | zero => intros; exact w_none _ _ _
  | succ n ih =>
    intros v3_4 I_5 L_6
    rw [f_X8_blockOf_16]
    refine w_iload_n (q := 17) (i := 3) (j := 2) hc dX8_blockOf_16 rfl rfl rfl ?_
    refine w_ifeq (q := 20) (tgt := 133) hc dX8_blockOf_17 rfl rfl ?_ ?_
    · refine w_sub [0, 1] rfl ?_
      exact hk0 I_5 L_6
    · refine w_iconst (q := 21) hc dX8_blockOf_20 ci_0 rfl ?_
      refine w_istore_n (q := 22) (i := 3) (lv' := [(3, .int 0), (0, .ref 43), (1, .int v1_3)]) hc dX8_blockOf_21 rfl (hN 3 rfl) rfl rfl ?_
      refine w_iconst (q := 23) hc dX8_blockOf_22 ci_0 rfl ?_
      refine w_istore (q := 25) (i := 4) (lv' := [(4, .int 0), (3, .int 0), (0, .ref 43), (1, .int v1_3)]) hc dX8_blockOf_23 (hN 4 rfl) rfl rfl ?_
      refine w_sub [2, 3, 1, 0] rfl ?_
      refine wl_X8_blockOf_25 v1_3 hc hq hK hR hn _ ?_ FU 0 0 I_5 L_6
      intro v3_38 I_39 L_40
      refine w_goto (tgt := 16) hc dX8_blockOf_130 rfl ?_
      exact ih v3_38 I_39 L_40
set_option maxRecDepth 100000 in
set_option maxHeartbeats 4000000 in
theorem m_X8_blockOf {l : Launch} {K : KT} {R : MR} {rm : Nat} {a1 : Int32} {a2 : Int32} {I : MI} {L : ML} (hK0 : K = lK rm) (hR0 : R = lR rm) : MFg l yX8_blockOf cX8_blockOf 7 (some .int) 1 25 [.ref 43, .int a1, .int a2] K R I L anIW meW (f_X8_blockOf a1 a2 I L) := by
  refine mf_of (plainFor_of_name (by decide)) (Nat.le_of_ble_eq_true rfl) ?_
  intro G hc _ hK1 hR1 hn hq
  have hK := hK1.trans hK0
  have hR := hR1.trans hR0
  have hN : ∀ i, Nat.blt i 7 = true → i < gnL G := fun i h => hn ▸ Nat.blt_eq.mp h
  unfold f_X8_blockOf
  show WW G 0 [(0, .ref 43), (1, .int a1), (2, .int a2)] [] I L _
  refine w_aload_n (q := 1) (i := 0) (j := 0) hc dX8_blockOf_0 rfl rfl rfl ?_
  refine gf_X8_72 (q := 4) hc dX8_blockOf_1 (k_43 hK) (r_43_26 hR) rfl ?_
  refine w_callS_Wv (q := 7) (st := []) (args := [.ref 64]) hc (m_X8_isHome hK hR (kB hK (k_64 hK))) dX8_blockOf_4 ml_X8_96 cf_X8_isHome st_X8_isHome rfl rfl (Nat.le_of_ble_eq_true rfl) ⟨Nat.le_of_ble_eq_true rfl, Nat.le_of_ble_eq_true rfl⟩ rfl (fun q_1 => ?_)
  refine w_aload_n (q := 8) (i := 0) (j := 0) hc dX8_blockOf_7 rfl rfl rfl ?_
  refine w_iload_n (q := 9) (i := 1) (j := 1) hc dX8_blockOf_8 rfl rfl rfl ?_
  refine w_iload_n (q := 10) (i := 2) (j := 2) hc dX8_blockOf_9 rfl rfl rfl ?_
  refine w_callV_Wz (q := 13) (st := []) (args := [.int a1, .int a2]) (p := 43) hc (m_X8_joins hK hR) dX8_blockOf_10 ml_X8_377 cf_X8_joins iv_X8_joins (k_43 hK) (C := RX8) (T := TX8) (N := 45) rfl rfl (Nat.lt_of_succ_le (Nat.le_of_ble_eq_true rfl)) rfl rfl (Nat.le_of_ble_eq_true rfl) ⟨Nat.le_of_ble_eq_true rfl, Nat.le_of_ble_eq_true rfl⟩ rfl (fun q_2 => ?_)
  refine w_pop_int (q := 14) hc dX8_blockOf_13  rfl ?_
  refine w_iconst (q := 15) hc dX8_blockOf_14 ci_1 rfl ?_
  refine w_istore_n (q := 16) (i := 3) (lv' := [(3, .int 1), (0, .ref 43), (1, .int a1), (2, .int a2)]) hc dX8_blockOf_15 rfl (hN 3 rfl) rfl rfl ?_
  refine w_sub [1, 2, 0] rfl ?_
  refine wl_X8_blockOf_16 a1 hc hq hK hR hn _ ?_ FU 1 q_2.2.1 q_2.2.2
  intro I_41 L_42
  refine w_iconst (q := 134) hc dX8_blockOf_133 ci_0 rfl ?_
  refine w_istore (q := 136) (i := 4) (lv' := [(4, .int 0), (0, .ref 43), (1, .int a1)]) hc dX8_blockOf_134 (hN 4 rfl) rfl rfl ?_
  refine w_iconst (q := 137) hc dX8_blockOf_136 ci_0 rfl ?_
  refine w_istore (q := 139) (i := 5) (lv' := [(5, .int 0), (4, .int 0), (0, .ref 43), (1, .int a1)]) hc dX8_blockOf_137 (hN 5 rfl) rfl rfl ?_
  refine w_sub [2, 3, 1, 0] rfl ?_
  exact wl_X8_blockOf_139 a1 I_41 L_42 hc hq hK hR hn FU 0 0
set_option maxRecDepth 100000 in
set_option maxHeartbeats 4000000 in
theorem wl_X8_isPrimitive_38 {G : GT (Bool × Mm)} {rm : Nat} (v2_9 : Int32) (hc : Cx G cX8_isPrimitive yX8_isPrimitive.cls (some .boolean) 2 51) (hq : RetQ G anZW meW) (hK : gK G = lK rm) (hR : gR G = lR rm) (hn : gnL G = 4) (k0 : Int32 → MI → ML → Option (Bool × Mm)) (hk0 : ∀ (v1_17 : Int32) (I_18 : MI) (L_19 : ML), WW G 76 [(0, .ref 43), (1, .int v1_17), (2, .int v2_9)] [] I_18 L_19 (k0 v1_17 I_18 L_19)) : ∀ (n : Nat) (v1_8 : Int32) (v3_10 : Int32) (I_11 : MI) (L_12 : ML), WW G 38 [(0, .ref 43), (1, .int v1_8), (2, .int v2_9), (3, .int v3_10)] [] I_11 L_12 (f_X8_isPrimitive_38 v2_9 k0 n v1_8 v3_10 I_11 L_12) := by
  have hN : ∀ i, Nat.blt i 4 = true → i < gnL G := fun i h => hn ▸ Nat.blt_eq.mp h
  intro n
  induction n with
  | zero => intros; exact w_none _ _ _
  | succ n ih =>
    intros v1_8 v3_10 I_11 L_12
    rw [f_X8_isPrimitive_38]
    refine w_iload_n (q := 39) (i := 3) (j := 3) hc dX8_isPrimitive_38 rfl rfl rfl ?_
    refine w_iload_n (q := 40) (i := 2) (j := 2) hc dX8_isPrimitive_39 rfl rfl rfl ?_
    refine w_icmpge (q := 43) (tgt := 76) hc dX8_isPrimitive_40 rfl rfl ?_ ?_
    · refine w_sub [0, 1, 2] rfl ?_
      exact hk0 v1_8 I_11 L_12
    · refine w_iload_n (q := 44) (i := 1) (j := 1) hc dX8_isPrimitive_43 rfl rfl rfl ?_
      refine w_ifeq (q := 47) (tgt := 68) hc dX8_isPrimitive_44 rfl rfl ?_ ?_
      · refine w_iconst (q := 69) hc dX8_isPrimitive_68 ci_0 rfl ?_
        refine w_istore_n (q := 70) (i := 1) (lv' := [(1, .int 0), (0, .ref 43), (2, .int v2_9), (3, .int v3_10)]) hc dX8_isPrimitive_69 rfl (hN 1 rfl) rfl rfl ?_
        refine w_iincB (q := 73) (i := 3) (j := 3) (lv' := fun v3_13 => [(3, .int v3_13), (1, .int 0), (0, .ref 43), (2, .int v2_9)]) hc dX8_isPrimitive_70 rfl ci_1 (hN 3 rfl) (fun _ => rfl) rfl (fun v3_13 => ?_)
        refine w_goto (tgt := 38) hc dX8_isPrimitive_73 rfl ?_
        refine w_sub [2, 1, 3, 0] rfl ?_
        exact ih 0 v3_13 I_11 L_12
      · refine w_aload_n (q := 48) (i := 0) (j := 0) hc dX8_isPrimitive_47 rfl rfl rfl ?_
        refine w_iload_n (q := 49) (i := 2) (j := 2) hc dX8_isPrimitive_48 rfl rfl rfl ?_
        refine w_iload_n (q := 50) (i := 3) (j := 3) hc dX8_isPrimitive_49 rfl rfl rfl ?_
        refine w_callV_Wi (q := 53) (st := []) (args := [.int v2_9, .int v3_10]) (p := 43) hc (m_X8_blockOf hK hR) dX8_isPrimitive_50 ml_X8_347 cf_X8_blockOf iv_X8_blockOf (k_43 hK) (C := RX8) (T := TX8) (N := 45) rfl rfl (Nat.lt_of_succ_le (Nat.le_of_ble_eq_true rfl)) rfl rfl (Nat.le_of_ble_eq_true rfl) ⟨Nat.le_of_ble_eq_true rfl, Nat.le_of_ble_eq_true rfl⟩ rfl (fun q_14 => ?_)
        refine w_iconst (q := 54) hc dX8_isPrimitive_53 ci_1 rfl ?_
        refine w_aload_n (q := 55) (i := 0) (j := 0) hc dX8_isPrimitive_54 rfl rfl rfl ?_
        refine gf_X8_118 (q := 58) hc dX8_isPrimitive_55 (k_43 hK) rfl ?_
        refine w_ishl (q := 59) hc dX8_isPrimitive_58  rfl ?_
        refine w_iconst (q := 60) hc dX8_isPrimitive_59 ci_1 rfl ?_
        refine w_isub (q := 61) hc dX8_isPrimitive_60  rfl ?_
        refine w_icmpne (q := 64) (tgt := 68) hc dX8_isPrimitive_61 rfl rfl ?_ ?_
        · refine w_iconst (q := 65) hc dX8_isPrimitive_64 ci_1 rfl ?_
          refine w_goto (tgt := 69) hc dX8_isPrimitive_65 rfl ?_
          refine w_istore_n (q := 70) (i := 1) (lv' := [(1, .int 1), (0, .ref 43), (2, .int v2_9), (3, .int v3_10)]) hc dX8_isPrimitive_69 rfl (hN 1 rfl) rfl rfl ?_
          refine w_iincB (q := 73) (i := 3) (j := 3) (lv' := fun v3_16 => [(3, .int v3_16), (1, .int 1), (0, .ref 43), (2, .int v2_9)]) hc dX8_isPrimitive_70 rfl ci_1 (hN 3 rfl) (fun _ => rfl) rfl (fun v3_16 => ?_)
          refine w_goto (tgt := 38) hc dX8_isPrimitive_73 rfl ?_
          refine w_sub [2, 1, 3, 0] rfl ?_
          exact ih 1 v3_16 q_14.2.1 q_14.2.2
        · refine w_iconst (q := 69) hc dX8_isPrimitive_68 ci_0 rfl ?_
          refine w_istore_n (q := 70) (i := 1) (lv' := [(1, .int 0), (0, .ref 43), (2, .int v2_9), (3, .int v3_10)]) hc dX8_isPrimitive_69 rfl (hN 1 rfl) rfl rfl ?_
          refine w_iincB (q := 73) (i := 3) (j := 3) (lv' := fun v3_15 => [(3, .int v3_15), (1, .int 0), (0, .ref 43), (2, .int v2_9)]) hc dX8_isPrimitive_70 rfl ci_1 (hN 3 rfl) (fun _ => rfl) rfl (fun v3_15 => ?_)
          refine w_goto (tgt := 38) hc dX8_isPrimitive_73 rfl ?_
          refine w_sub [2, 1, 3, 0] rfl ?_
          exact ih 0 v3_15 q_14.2.1 q_14.2.2
set_option maxRecDepth 100000 in
set_option maxHeartbeats 4000000 in
theorem wl_X8_isPrimitive_24 {G : GT (Bool × Mm)} {rm : Nat} (hc : Cx G cX8_isPrimitive yX8_isPrimitive.cls (some .boolean) 2 51) (hq : RetQ G anZW meW) (hK : gK G = lK rm) (hR : gR G = lR rm) (hn : gnL G = 4) : ∀ (n : Nat) (v1_4 : Int32) (v2_5 : Int32) (I_6 : MI) (L_7 : ML), WW G 24 [(0, .ref 43), (1, .int v1_4), (2, .int v2_5)] [] I_6 L_7 (f_X8_isPrimitive_24 n v1_4 v2_5 I_6 L_7) := by
  have hN : ∀ i, Nat.blt i 4 = true → i < gnL G := fun i h => hn ▸ Nat.blt_eq.mp h
  intro n
  induction n with
  | zero => intros; exact w_none _ _ _
  | succ n ih =>
    intros v1_4 v2_5 I_6 L_7
    rw [f_X8_isPrimitive_24]
    refine w_iload_n (q := 25) (i := 2) (j := 2) hc dX8_isPrimitive_24 rfl rfl rfl ?_
    refine w_aload_n (q := 26) (i := 0) (j := 0) hc dX8_isPrimitive_25 rfl rfl rfl ?_
    refine gf_X8_118 (q := 29) hc dX8_isPrimitive_26 (k_43 hK) rfl ?_
    refine w_icmpge (q := 32) (tgt := 82) hc dX8_isPrimitive_29 rfl rfl ?_ ?_
    · refine w_iload_n (q := 83) (i := 1) (j := 1) hc dX8_isPrimitive_82 rfl rfl rfl ?_
      exact w_ireturnZ (v := v1_4) hc hq dX8_isPrimitive_83 (fun h => by show some (Value.int (b2i (i2z _))) = _; rw [b2i_i2z h]) rfl
    · refine w_iload_n (q := 33) (i := 1) (j := 1) hc dX8_isPrimitive_32 rfl rfl rfl ?_
      refine w_ifeq (q := 36) (tgt := 82) hc dX8_isPrimitive_33 rfl rfl ?_ ?_
      · refine w_iload_n (q := 83) (i := 1) (j := 1) hc dX8_isPrimitive_82 rfl rfl rfl ?_
        exact w_ireturnZ (v := v1_4) hc hq dX8_isPrimitive_83 (fun h => by show some (Value.int (b2i (i2z _))) = _; rw [b2i_i2z h]) rfl
      · refine w_iconst (q := 37) hc dX8_isPrimitive_36 ci_0 rfl ?_
        refine w_istore_n (q := 38) (i := 3) (lv' := [(3, .int 0), (0, .ref 43), (1, .int v1_4), (2, .int v2_5)]) hc dX8_isPrimitive_37 rfl (hN 3 rfl) rfl rfl ?_
        refine w_sub [1, 2, 3, 0] rfl ?_
        refine wl_X8_isPrimitive_38 v2_5 hc hq hK hR hn _ ?_ FU v1_4 0 I_6 L_7
        intro v1_17 I_18 L_19
        refine w_iincB (q := 79) (i := 2) (j := 2) (lv' := fun v2_20 => [(2, .int v2_20), (0, .ref 43), (1, .int v1_17)]) hc dX8_isPrimitive_76 rfl ci_1 (hN 2 rfl) (fun _ => rfl) rfl (fun v2_20 => ?_)
        refine w_goto (tgt := 24) hc dX8_isPrimitive_79 rfl ?_
        refine w_sub [1, 2, 0] rfl ?_
        exact ih v1_17 v2_20 I_18 L_19
set_option maxRecDepth 100000 in
set_option maxHeartbeats 4000000 in
theorem m_X8_isPrimitive {l : Launch} {K : KT} {R : MR} {rm : Nat} {I : MI} {L : ML} (hK0 : K = lK rm) (hR0 : R = lR rm) : MFg l yX8_isPrimitive cX8_isPrimitive 4 (some .boolean) 2 51 [.ref 43] K R I L anZW meW (f_X8_isPrimitive I L) := by
  refine mf_of (plainFor_of_name (by decide)) (Nat.le_of_ble_eq_true rfl) ?_
  intro G hc _ hK1 hR1 hn hq
  have hK := hK1.trans hK0
  have hR := hR1.trans hR0
  have hN : ∀ i, Nat.blt i 4 = true → i < gnL G := fun i h => hn ▸ Nat.blt_eq.mp h
  unfold f_X8_isPrimitive
  show WW G 0 [(0, .ref 43)] [] I L _
  refine w_aload_n (q := 1) (i := 0) (j := 0) hc dX8_isPrimitive_0 rfl rfl rfl ?_
  refine w_iconst (q := 2) hc dX8_isPrimitive_1 ci_0 rfl ?_
  refine w_callV_Ri (q := 5) (st := []) (args := [.int 0]) (p := 43) hc (m_X8_orbitOf hK hR) dX8_isPrimitive_2 ml_X8_257 cf_X8_orbitOf iv_X8_orbitOf (k_43 hK) (C := RX8) (T := TX8) (N := 45) rfl rfl (Nat.lt_of_succ_le (Nat.le_of_ble_eq_true rfl)) rfl rfl (Nat.le_of_ble_eq_true rfl) ⟨Nat.le_of_ble_eq_true rfl, Nat.le_of_ble_eq_true rfl⟩ rfl (fun q_1 => ?_)
  refine w_iconst (q := 6) hc dX8_isPrimitive_5 ci_1 rfl ?_
  refine w_aload_n (q := 7) (i := 0) (j := 0) hc dX8_isPrimitive_6 rfl rfl rfl ?_
  refine gf_X8_118 (q := 10) hc dX8_isPrimitive_7 (k_43 hK) rfl ?_
  refine w_ishl (q := 11) hc dX8_isPrimitive_10  rfl ?_
  refine w_iconst (q := 12) hc dX8_isPrimitive_11 ci_1 rfl ?_
  refine w_isub (q := 13) hc dX8_isPrimitive_12  rfl ?_
  refine w_join (fun j21_315 : Bool → Option (Bool × Mm) => ∀ (s0_2 : Bool), WW G 21 [(0, .ref 43)] [.int (b2i s0_2)] I L (j21_315 s0_2)) ?_ ?_
  · intro s0_2
    refine w_istore_nB (q := 22) (i := 1) (lv' := fun v1_3 => [(1, .int v1_3), (0, .ref 43)]) hc dX8_isPrimitive_21 rfl (hN 1 rfl) (fun _ => rfl) rfl (fun v1_3 => ?_)
    refine w_iconst (q := 23) hc dX8_isPrimitive_22 ci_0 rfl ?_
    refine w_istore_n (q := 24) (i := 2) (lv' := [(2, .int 0), (1, .int v1_3), (0, .ref 43)]) hc dX8_isPrimitive_23 rfl (hN 2 rfl) rfl rfl ?_
    refine w_sub [2, 1, 0] rfl ?_
    exact wl_X8_isPrimitive_24 hc hq hK hR hn FU v1_3 0 I L
  · intro j21_315 hj21_315
    refine w_icmpne (q := 16) (tgt := 20) hc dX8_isPrimitive_13 rfl rfl ?_ ?_
    · refine w_iconst (q := 17) hc dX8_isPrimitive_16 ci_1 rfl ?_
      refine w_goto (tgt := 21) hc dX8_isPrimitive_17 rfl ?_
      exact hj21_315 true
    · refine w_iconst (q := 21) hc dX8_isPrimitive_20 ci_0 rfl ?_
      exact hj21_315 false
set_option maxRecDepth 100000 in
set_option maxHeartbeats 4000000 in
theorem m_X8_has {l : Launch} {K : KT} {R : MR} {rm : Nat} {a1 : Int32} {I : MI} {L : ML} (hK0 : K = lK rm) (hR0 : R = lR rm) : MFg l yX8_has cX8_has 2 (some .int) 10 230 [.ref 43, .int a1] K R I L anIW meW (f_X8_has a1 I L) := by
  refine mf_of (plainFor_of_name (by decide)) (Nat.le_of_ble_eq_true rfl) ?_
  intro G hc _ hK1 hR1 hn hq
  have hK := hK1.trans hK0
  have hR := hR1.trans hR0
  have hN : ∀ i, Nat.blt i 2 = true → i < gnL G := fun i h => hn ▸ Nat.blt_eq.mp h
  unfold f_X8_has
  show WW G 0 [(0, .ref 43), (1, .int a1)] [] I L _
  refine w_aload_n (q := 1) (i := 0) (j := 0) hc dX8_has_0 rfl rfl rfl ?_
  refine w_aload_n (q := 2) (i := 0) (j := 0) hc dX8_has_1 rfl rfl rfl ?_
  refine w_iload_n (q := 3) (i := 1) (j := 1) hc dX8_has_2 rfl rfl rfl ?_
  refine w_i2l (q := 4) hc dX8_has_3  rfl ?_
  refine w_lconst (q := 5) hc dX8_has_4 cl_0 rfl ?_
  refine w_ldc2 (q := 8) hc dX8_has_5 kl_X8_192 rfl ?_
  refine w_callS_Rz (q := 11) (st := [.ref 43, .ref 43]) (args := [.long (Int32.toInt64 a1), .long 0, .long 3]) hc (m_X8_isIn hK hR) dX8_has_8 ml_X8_114 cf_X8_isIn st_X8_isIn rfl rfl (Nat.le_of_ble_eq_true rfl) ⟨Nat.le_of_ble_eq_true rfl, Nat.le_of_ble_eq_true rfl⟩ rfl (fun q_1 => ?_)
  refine w_join (fun j19_319 : Bool → Option (Int32 × Mm) => ∀ (s0_2 : Bool), WW G 19 [(0, .ref 43), (1, .int a1)] [.int (b2i s0_2), .ref 43, .ref 43] I L (j19_319 s0_2)) ?_ ?_
  · intro s0_2
    refine w_callV_Ri (q := 22) (st := [.ref 43]) (args := [.int (b2i s0_2)]) (p := 43) hc (m_X8_whyHere hK hR) dX8_has_19 ml_X8_260 cf_X8_whyHere iv_X8_whyHere (k_43 hK) (C := RX8) (T := TX8) (N := 45) rfl rfl (Nat.lt_of_succ_le (Nat.le_of_ble_eq_true rfl)) rfl rfl (Nat.le_of_ble_eq_true rfl) ⟨Nat.le_of_ble_eq_true rfl, Nat.le_of_ble_eq_true rfl⟩ rfl (fun q_3 => ?_)
    refine w_callV_Wz (q := 25) (st := []) (args := [.int q_3]) (p := 43) hc (m_X8_is hK hR) dX8_has_22 ml_X8_194 cf_X8_is iv_X8_is (k_43 hK) (C := RX8) (T := TX8) (N := 45) rfl rfl (Nat.lt_of_succ_le (Nat.le_of_ble_eq_true rfl)) rfl rfl (Nat.le_of_ble_eq_true rfl) ⟨Nat.le_of_ble_eq_true rfl, Nat.le_of_ble_eq_true rfl⟩ rfl (fun q_4 => ?_)
    refine w_ifne (q := 28) (tgt := 30) hc dX8_has_25 rfl rfl ?_ ?_
    · refine w_iconst (q := 29) hc dX8_has_28 ci_m1 rfl ?_
      exact w_ireturn (v := (-1)) hc hq dX8_has_29 rfl rfl rfl
    · refine w_iload_n (q := 31) (i := 1) (j := 1) hc dX8_has_30 rfl rfl rfl ?_
      refine w_ifne (q := 34) (tgt := 44) hc dX8_has_31 rfl rfl ?_ ?_
      · refine w_aload_n (q := 35) (i := 0) (j := 0) hc dX8_has_34 rfl rfl rfl ?_
        refine w_callV_Wz (q := 38) (st := []) (args := []) (p := 43) hc (m_X8_allGo hK hR) dX8_has_35 ml_X8_350 cf_X8_allGo iv_X8_allGo (k_43 hK) (C := RX8) (T := TX8) (N := 45) rfl rfl (Nat.lt_of_succ_le (Nat.le_of_ble_eq_true rfl)) rfl rfl (Nat.le_of_ble_eq_true rfl) ⟨Nat.le_of_ble_eq_true rfl, Nat.le_of_ble_eq_true rfl⟩ rfl (fun q_8 => ?_)
        refine w_ifeq (q := 41) (tgt := 85) hc dX8_has_38 rfl rfl ?_ ?_
        · refine w_iconst (q := 86) hc dX8_has_85 ci_0 rfl ?_
          exact w_ireturn (v := 0) hc hq dX8_has_86 rfl rfl rfl
        · refine w_goto (tgt := 81) hc dX8_has_41 rfl ?_
          refine w_iconst (q := 82) hc dX8_has_81 ci_1 rfl ?_
          refine w_goto (tgt := 86) hc dX8_has_82 rfl ?_
          exact w_ireturn (v := 1) hc hq dX8_has_86 rfl rfl rfl
      · refine w_iload_n (q := 45) (i := 1) (j := 1) hc dX8_has_44 rfl rfl rfl ?_
        refine w_iconst (q := 46) hc dX8_has_45 ci_1 rfl ?_
        refine w_icmpne (q := 49) (tgt := 59) hc dX8_has_46 rfl rfl ?_ ?_
        · refine w_aload_n (q := 50) (i := 0) (j := 0) hc dX8_has_49 rfl rfl rfl ?_
          refine w_callV_Wz (q := 53) (st := []) (args := []) (p := 43) hc (m_X8_endsHome hK hR) dX8_has_50 ml_X8_353 cf_X8_endsHome iv_X8_endsHome (k_43 hK) (C := RX8) (T := TX8) (N := 45) rfl rfl (Nat.lt_of_succ_le (Nat.le_of_ble_eq_true rfl)) rfl rfl (Nat.le_of_ble_eq_true rfl) ⟨Nat.le_of_ble_eq_true rfl, Nat.le_of_ble_eq_true rfl⟩ rfl (fun q_7 => ?_)
          refine w_ifeq (q := 56) (tgt := 85) hc dX8_has_53 rfl rfl ?_ ?_
          · refine w_iconst (q := 86) hc dX8_has_85 ci_0 rfl ?_
            exact w_ireturn (v := 0) hc hq dX8_has_86 rfl rfl rfl
          · refine w_goto (tgt := 81) hc dX8_has_56 rfl ?_
            refine w_iconst (q := 82) hc dX8_has_81 ci_1 rfl ?_
            refine w_goto (tgt := 86) hc dX8_has_82 rfl ?_
            exact w_ireturn (v := 1) hc hq dX8_has_86 rfl rfl rfl
        · refine w_iload_n (q := 60) (i := 1) (j := 1) hc dX8_has_59 rfl rfl rfl ?_
          refine w_iconst (q := 61) hc dX8_has_60 ci_2 rfl ?_
          refine w_icmpne (q := 64) (tgt := 74) hc dX8_has_61 rfl rfl ?_ ?_
          · refine w_aload_n (q := 65) (i := 0) (j := 0) hc dX8_has_64 rfl rfl rfl ?_
            refine w_callV_Wz (q := 68) (st := []) (args := []) (p := 43) hc (m_X8_allEven hK hR) dX8_has_65 ml_X8_356 cf_X8_allEven iv_X8_allEven (k_43 hK) (C := RX8) (T := TX8) (N := 45) rfl rfl (Nat.lt_of_succ_le (Nat.le_of_ble_eq_true rfl)) rfl rfl (Nat.le_of_ble_eq_true rfl) ⟨Nat.le_of_ble_eq_true rfl, Nat.le_of_ble_eq_true rfl⟩ rfl (fun q_6 => ?_)
            refine w_ifeq (q := 71) (tgt := 85) hc dX8_has_68 rfl rfl ?_ ?_
            · refine w_iconst (q := 86) hc dX8_has_85 ci_0 rfl ?_
              exact w_ireturn (v := 0) hc hq dX8_has_86 rfl rfl rfl
            · refine w_goto (tgt := 81) hc dX8_has_71 rfl ?_
              refine w_iconst (q := 82) hc dX8_has_81 ci_1 rfl ?_
              refine w_goto (tgt := 86) hc dX8_has_82 rfl ?_
              exact w_ireturn (v := 1) hc hq dX8_has_86 rfl rfl rfl
          · refine w_aload_n (q := 75) (i := 0) (j := 0) hc dX8_has_74 rfl rfl rfl ?_
            refine w_callV_Wz (q := 78) (st := []) (args := []) (p := 43) hc (m_X8_isPrimitive hK hR) dX8_has_75 ml_X8_359 cf_X8_isPrimitive iv_X8_isPrimitive (k_43 hK) (C := RX8) (T := TX8) (N := 45) rfl rfl (Nat.lt_of_succ_le (Nat.le_of_ble_eq_true rfl)) rfl rfl (Nat.le_of_ble_eq_true rfl) ⟨Nat.le_of_ble_eq_true rfl, Nat.le_of_ble_eq_true rfl⟩ rfl (fun q_5 => ?_)
            refine w_ifeq (q := 81) (tgt := 85) hc dX8_has_78 rfl rfl ?_ ?_
            · refine w_iconst (q := 86) hc dX8_has_85 ci_0 rfl ?_
              exact w_ireturn (v := 0) hc hq dX8_has_86 rfl rfl rfl
            · refine w_iconst (q := 82) hc dX8_has_81 ci_1 rfl ?_
              refine w_goto (tgt := 86) hc dX8_has_82 rfl ?_
              exact w_ireturn (v := 1) hc hq dX8_has_86 rfl rfl rfl
  · intro j19_319 hj19_319
    refine w_ifeq (q := 14) (tgt := 18) hc dX8_has_11 rfl rfl ?_ ?_
    · refine w_iconst (q := 19) hc dX8_has_18 ci_1 rfl ?_
      exact hj19_319 true
    · refine w_iconst (q := 15) hc dX8_has_14 ci_0 rfl ?_
      refine w_goto (tgt := 19) hc dX8_has_15 rfl ?_
      exact hj19_319 false
set_option maxRecDepth 100000 in
set_option maxHeartbeats 4000000 in
theorem m_X8_by {l : Launch} {K : KT} {R : MR} {rm : Nat} {a1 : Int32} {I : MI} {L : ML} (hK0 : K = lK rm) (hR0 : R = lR rm) : MFg l yX8_by cX8_by 2 (some .int) 7 164 [.ref 43, .int a1] K R I L anIW meW (f_X8_by a1 I L) := by
  refine mf_of (plainFor_of_name (by decide)) (Nat.le_of_ble_eq_true rfl) ?_
  intro G hc _ hK1 hR1 hn hq
  have hK := hK1.trans hK0
  have hR := hR1.trans hR0
  have hN : ∀ i, Nat.blt i 2 = true → i < gnL G := fun i h => hn ▸ Nat.blt_eq.mp h
  unfold f_X8_by
  show WW G 0 [(0, .ref 43), (1, .int a1)] [] I L _
  refine w_aload_n (q := 1) (i := 0) (j := 0) hc dX8_by_0 rfl rfl rfl ?_
  refine w_aload_n (q := 2) (i := 0) (j := 0) hc dX8_by_1 rfl rfl rfl ?_
  refine w_aload_n (q := 3) (i := 0) (j := 0) hc dX8_by_2 rfl rfl rfl ?_
  refine w_iload_n (q := 4) (i := 1) (j := 1) hc dX8_by_3 rfl rfl rfl ?_
  refine w_callV_Rz (q := 7) (st := [.ref 43, .ref 43]) (args := [.int a1]) (p := 43) hc (m_X8_areMoves hK hR) dX8_by_4 ml_X8_362 cf_X8_areMoves iv_X8_areMoves (k_43 hK) (C := RX8) (T := TX8) (N := 45) rfl rfl (Nat.lt_of_succ_le (Nat.le_of_ble_eq_true rfl)) rfl rfl (Nat.le_of_ble_eq_true rfl) ⟨Nat.le_of_ble_eq_true rfl, Nat.le_of_ble_eq_true rfl⟩ rfl (fun q_1 => ?_)
  refine w_join (fun j15_320 : Int32 → Option (Int32 × Mm) => ∀ (s0_2 : Int32), WW G 15 [(0, .ref 43), (1, .int a1)] [.int s0_2, .ref 43, .ref 43] I L (j15_320 s0_2)) ?_ ?_
  · intro s0_2
    refine w_callV_Ri (q := 18) (st := [.ref 43]) (args := [.int s0_2]) (p := 43) hc (m_X8_whyHere hK hR) dX8_by_15 ml_X8_260 cf_X8_whyHere iv_X8_whyHere (k_43 hK) (C := RX8) (T := TX8) (N := 45) rfl rfl (Nat.lt_of_succ_le (Nat.le_of_ble_eq_true rfl)) rfl rfl (Nat.le_of_ble_eq_true rfl) ⟨Nat.le_of_ble_eq_true rfl, Nat.le_of_ble_eq_true rfl⟩ rfl (fun q_3 => ?_)
    refine w_callV_Wz (q := 21) (st := []) (args := [.int q_3]) (p := 43) hc (m_X8_is hK hR) dX8_by_18 ml_X8_194 cf_X8_is iv_X8_is (k_43 hK) (C := RX8) (T := TX8) (N := 45) rfl rfl (Nat.lt_of_succ_le (Nat.le_of_ble_eq_true rfl)) rfl rfl (Nat.le_of_ble_eq_true rfl) ⟨Nat.le_of_ble_eq_true rfl, Nat.le_of_ble_eq_true rfl⟩ rfl (fun q_4 => ?_)
    refine w_ifne (q := 24) (tgt := 26) hc dX8_by_21 rfl rfl ?_ ?_
    · refine w_iconst (q := 25) hc dX8_by_24 ci_m1 rfl ?_
      exact w_ireturn (v := (-1)) hc hq dX8_by_25 rfl rfl rfl
    · refine w_aload_n (q := 27) (i := 0) (j := 0) hc dX8_by_26 rfl rfl rfl ?_
      refine w_iconst (q := 28) hc dX8_by_27 ci_1 rfl ?_
      refine w_iload_n (q := 29) (i := 1) (j := 1) hc dX8_by_28 rfl rfl rfl ?_
      refine w_callV_Wv (q := 32) (st := []) (args := [.int 1, .int a1]) (p := 43) hc (m_X8_builds hK hR) dX8_by_29 ml_X8_175 cf_X8_builds iv_X8_builds (k_43 hK) (C := RX8) (T := TX8) (N := 45) rfl rfl (Nat.lt_of_succ_le (Nat.le_of_ble_eq_true rfl)) rfl rfl (Nat.le_of_ble_eq_true rfl) ⟨Nat.le_of_ble_eq_true rfl, Nat.le_of_ble_eq_true rfl⟩ rfl (fun q_5 => ?_)
      refine w_aload_n (q := 33) (i := 0) (j := 0) hc dX8_by_32 rfl rfl rfl ?_
      refine w_iconst (q := 34) hc dX8_by_33 ci_1 rfl ?_
      refine w_callV_Ri (q := 37) (st := []) (args := [.int 1]) (p := 43) hc (m_X8_orderOf hK hR) dX8_by_34 ml_X8_181 cf_X8_orderOf iv_X8_orderOf (k_43 hK) (C := RX8) (T := TX8) (N := 45) rfl rfl (Nat.lt_of_succ_le (Nat.le_of_ble_eq_true rfl)) rfl rfl (Nat.le_of_ble_eq_true rfl) ⟨Nat.le_of_ble_eq_true rfl, Nat.le_of_ble_eq_true rfl⟩ rfl (fun q_6 => ?_)
      exact w_ireturn (v := q_6) hc hq dX8_by_37 rfl rfl rfl
  · intro j15_320 hj15_320
    refine w_ifeq (q := 10) (tgt := 14) hc dX8_by_7 rfl rfl ?_ ?_
    · refine w_iconst (q := 15) hc dX8_by_14 ci_2 rfl ?_
      exact hj15_320 2
    · refine w_iconst (q := 11) hc dX8_by_10 ci_0 rfl ?_
      refine w_goto (tgt := 15) hc dX8_by_11 rfl ?_
      exact hj15_320 0
set_option maxRecDepth 100000 in
set_option maxHeartbeats 4000000 in
theorem wl_X8_meet_55 {G : GT (Int32 × Mm)} {rm : Nat} (hc : Cx G cX8_meet yX8_meet.cls (some .int) 11 245) (hq : RetQ G anIW meW) (hK : gK G = lK rm) (hR : gR G = lR rm) (hn : gnL G = 5) : ∀ (n : Nat) (v3_9 : Int32) (v4_10 : Int32) (I_11 : MI) (L_12 : ML), WW G 55 [(0, .ref 43), (3, .int v3_9), (4, .int v4_10)] [] I_11 L_12 (f_X8_meet_55 n v3_9 v4_10 I_11 L_12) := by
  have hN : ∀ i, Nat.blt i 5 = true → i < gnL G := fun i h => hn ▸ Nat.blt_eq.mp h
  intro n
  induction n with
  | zero => intros; exact w_none _ _ _
  | succ n ih =>
    intros v3_9 v4_10 I_11 L_12
    rw [f_X8_meet_55]
    refine w_iload (q := 57) (i := 4) (j := 2) hc dX8_meet_55 rfl rfl ?_
    refine w_aload_n (q := 58) (i := 0) (j := 0) hc dX8_meet_57 rfl rfl rfl ?_
    refine gf_X8_290 (q := 61) hc dX8_meet_58 (k_43 hK) rfl ?_
    refine w_icmpge (q := 64) (tgt := 112) hc dX8_meet_61 rfl rfl ?_ ?_
    · refine w_iload_n (q := 113) (i := 3) (j := 1) hc dX8_meet_112 rfl rfl rfl ?_
      exact w_ireturn (v := v3_9) hc hq dX8_meet_113 rfl rfl rfl
    · refine w_aload_n (q := 65) (i := 0) (j := 0) hc dX8_meet_64 rfl rfl rfl ?_
      refine w_iload (q := 67) (i := 4) (j := 2) hc dX8_meet_65 rfl rfl ?_
      refine w_aload_n (q := 68) (i := 0) (j := 0) hc dX8_meet_67 rfl rfl rfl ?_
      refine gf_X8_16 (q := 71) hc dX8_meet_68 (k_43 hK) (r_43_6 hR) rfl ?_
      refine w_callV_Wv (q := 74) (st := []) (args := [.int v4_10, .ref 46]) (p := 43) hc (m_X8_laysOne hK hR (kB hK (k_46 hK))) dX8_meet_71 ml_X8_296 cf_X8_laysOne iv_X8_laysOne (k_43 hK) (C := RX8) (T := TX8) (N := 45) rfl rfl (Nat.lt_of_succ_le (Nat.le_of_ble_eq_true rfl)) rfl rfl (Nat.le_of_ble_eq_true rfl) ⟨Nat.le_of_ble_eq_true rfl, Nat.le_of_ble_eq_true rfl⟩ rfl (fun q_13 => ?_)
      refine w_iload_n (q := 75) (i := 3) (j := 1) hc dX8_meet_74 rfl rfl rfl ?_
      refine w_aload_n (q := 76) (i := 0) (j := 0) hc dX8_meet_75 rfl rfl rfl ?_
      refine w_iconst (q := 77) hc dX8_meet_76 ci_1 rfl ?_
      refine w_aload_n (q := 78) (i := 0) (j := 0) hc dX8_meet_77 rfl rfl rfl ?_
      refine gf_X8_16 (q := 81) hc dX8_meet_78 (k_43 hK) (r_43_6 hR) rfl ?_
      refine w_callV_Wz (q := 84) (st := [.int v3_9]) (args := [.int 1, .ref 46]) (p := 43) hc (m_X8_isMember hK hR (kB hK (k_46 hK))) dX8_meet_81 ml_X8_275 cf_X8_isMember iv_X8_isMember (k_43 hK) (C := RX8) (T := TX8) (N := 45) rfl rfl (Nat.lt_of_succ_le (Nat.le_of_ble_eq_true rfl)) rfl rfl (Nat.le_of_ble_eq_true rfl) ⟨Nat.le_of_ble_eq_true rfl, Nat.le_of_ble_eq_true rfl⟩ rfl (fun q_14 => ?_)
      refine w_ifeq (q := 87) (tgt := 103) hc dX8_meet_84 rfl rfl ?_ ?_
      · refine w_iconst (q := 104) hc dX8_meet_103 ci_0 rfl ?_
        refine w_iadd (q := 105) hc dX8_meet_104  rfl ?_
        refine w_istore_nB (q := 106) (i := 3) (lv' := fun v3_15 => [(3, .int v3_15), (0, .ref 43), (4, .int v4_10)]) hc dX8_meet_105 rfl (hN 3 rfl) (fun _ => rfl) rfl (fun v3_15 => ?_)
        refine w_iincB (q := 109) (i := 4) (j := 2) (lv' := fun v4_16 => [(4, .int v4_16), (3, .int v3_15), (0, .ref 43)]) hc dX8_meet_106 rfl ci_1 (hN 4 rfl) (fun _ => rfl) rfl (fun v4_16 => ?_)
        refine w_goto (tgt := 55) hc dX8_meet_109 rfl ?_
        refine w_sub [2, 1, 0] rfl ?_
        exact ih v3_15 v4_16 q_14.2.1 q_14.2.2
      · refine w_aload_n (q := 88) (i := 0) (j := 0) hc dX8_meet_87 rfl rfl rfl ?_
        refine w_iconst (q := 89) hc dX8_meet_88 ci_2 rfl ?_
        refine w_aload_n (q := 90) (i := 0) (j := 0) hc dX8_meet_89 rfl rfl rfl ?_
        refine gf_X8_16 (q := 93) hc dX8_meet_90 (k_43 hK) (r_43_6 hR) rfl ?_
        refine w_callV_Wz (q := 96) (st := [.int v3_9]) (args := [.int 2, .ref 46]) (p := 43) hc (m_X8_isMember hK hR (kB hK (k_46 hK))) dX8_meet_93 ml_X8_275 cf_X8_isMember iv_X8_isMember (k_43 hK) (C := RX8) (T := TX8) (N := 45) rfl rfl (Nat.lt_of_succ_le (Nat.le_of_ble_eq_true rfl)) rfl rfl (Nat.le_of_ble_eq_true rfl) ⟨Nat.le_of_ble_eq_true rfl, Nat.le_of_ble_eq_true rfl⟩ rfl (fun q_17 => ?_)
        refine w_ifeq (q := 99) (tgt := 103) hc dX8_meet_96 rfl rfl ?_ ?_
        · refine w_iconst (q := 104) hc dX8_meet_103 ci_0 rfl ?_
          refine w_iadd (q := 105) hc dX8_meet_104  rfl ?_
          refine w_istore_nB (q := 106) (i := 3) (lv' := fun v3_18 => [(3, .int v3_18), (0, .ref 43), (4, .int v4_10)]) hc dX8_meet_105 rfl (hN 3 rfl) (fun _ => rfl) rfl (fun v3_18 => ?_)
          refine w_iincB (q := 109) (i := 4) (j := 2) (lv' := fun v4_19 => [(4, .int v4_19), (3, .int v3_18), (0, .ref 43)]) hc dX8_meet_106 rfl ci_1 (hN 4 rfl) (fun _ => rfl) rfl (fun v4_19 => ?_)
          refine w_goto (tgt := 55) hc dX8_meet_109 rfl ?_
          refine w_sub [2, 1, 0] rfl ?_
          exact ih v3_18 v4_19 q_17.2.1 q_17.2.2
        · refine w_iconst (q := 100) hc dX8_meet_99 ci_1 rfl ?_
          refine w_goto (tgt := 104) hc dX8_meet_100 rfl ?_
          refine w_iadd (q := 105) hc dX8_meet_104  rfl ?_
          refine w_istore_nB (q := 106) (i := 3) (lv' := fun v3_20 => [(3, .int v3_20), (0, .ref 43), (4, .int v4_10)]) hc dX8_meet_105 rfl (hN 3 rfl) (fun _ => rfl) rfl (fun v3_20 => ?_)
          refine w_iincB (q := 109) (i := 4) (j := 2) (lv' := fun v4_21 => [(4, .int v4_21), (3, .int v3_20), (0, .ref 43)]) hc dX8_meet_106 rfl ci_1 (hN 4 rfl) (fun _ => rfl) rfl (fun v4_21 => ?_)
          refine w_goto (tgt := 55) hc dX8_meet_109 rfl ?_
          refine w_sub [2, 1, 0] rfl ?_
          exact ih v3_20 v4_21 q_17.2.1 q_17.2.2
set_option maxRecDepth 100000 in
set_option maxHeartbeats 4000000 in
theorem m_X8_meet {l : Launch} {K : KT} {R : MR} {rm : Nat} {a1 : Int32} {a2 : Int32} {I : MI} {L : ML} (hK0 : K = lK rm) (hR0 : R = lR rm) : MFg l yX8_meet cX8_meet 5 (some .int) 11 245 [.ref 43, .int a1, .int a2] K R I L anIW meW (f_X8_meet a1 a2 I L) := by
  refine mf_of (plainFor_of_name (by decide)) (Nat.le_of_ble_eq_true rfl) ?_
  intro G hc _ hK1 hR1 hn hq
  have hK := hK1.trans hK0
  have hR := hR1.trans hR0
  have hN : ∀ i, Nat.blt i 5 = true → i < gnL G := fun i h => hn ▸ Nat.blt_eq.mp h
  unfold f_X8_meet
  show WW G 0 [(0, .ref 43), (1, .int a1), (2, .int a2)] [] I L _
  refine w_aload_n (q := 1) (i := 0) (j := 0) hc dX8_meet_0 rfl rfl rfl ?_
  refine w_aload_n (q := 2) (i := 0) (j := 0) hc dX8_meet_1 rfl rfl rfl ?_
  refine w_aload_n (q := 3) (i := 0) (j := 0) hc dX8_meet_2 rfl rfl rfl ?_
  refine w_iload_n (q := 4) (i := 1) (j := 1) hc dX8_meet_3 rfl rfl rfl ?_
  refine w_callV_Rz (q := 7) (st := [.ref 43, .ref 43]) (args := [.int a1]) (p := 43) hc (m_X8_areMoves hK hR) dX8_meet_4 ml_X8_362 cf_X8_areMoves iv_X8_areMoves (k_43 hK) (C := RX8) (T := TX8) (N := 45) rfl rfl (Nat.lt_of_succ_le (Nat.le_of_ble_eq_true rfl)) rfl rfl (Nat.le_of_ble_eq_true rfl) ⟨Nat.le_of_ble_eq_true rfl, Nat.le_of_ble_eq_true rfl⟩ rfl (fun q_1 => ?_)
  refine w_join (fun j23_321 : Int32 → Option (Int32 × Mm) => ∀ (s0_3 : Int32), WW G 23 [(0, .ref 43), (1, .int a1), (2, .int a2)] [.int s0_3, .ref 43, .ref 43] I L (j23_321 s0_3)) ?_ ?_
  · intro s0_3
    refine w_callV_Wi (q := 26) (st := [.ref 43]) (args := [.int s0_3]) (p := 43) hc (m_X8_whySmall hK hR) dX8_meet_23 ml_X8_299 cf_X8_whySmall iv_X8_whySmall (k_43 hK) (C := RX8) (T := TX8) (N := 45) rfl rfl (Nat.lt_of_succ_le (Nat.le_of_ble_eq_true rfl)) rfl rfl (Nat.le_of_ble_eq_true rfl) ⟨Nat.le_of_ble_eq_true rfl, Nat.le_of_ble_eq_true rfl⟩ rfl (fun q_4 => ?_)
    refine w_callV_Wz (q := 29) (st := []) (args := [.int q_4.1]) (p := 43) hc (m_X8_is hK hR) dX8_meet_26 ml_X8_194 cf_X8_is iv_X8_is (k_43 hK) (C := RX8) (T := TX8) (N := 45) rfl rfl (Nat.lt_of_succ_le (Nat.le_of_ble_eq_true rfl)) rfl rfl (Nat.le_of_ble_eq_true rfl) ⟨Nat.le_of_ble_eq_true rfl, Nat.le_of_ble_eq_true rfl⟩ rfl (fun q_5 => ?_)
    refine w_ifne (q := 32) (tgt := 34) hc dX8_meet_29 rfl rfl ?_ ?_
    · refine w_iconst (q := 33) hc dX8_meet_32 ci_m1 rfl ?_
      exact w_ireturn (v := (-1)) hc hq dX8_meet_33 rfl rfl rfl
    · refine w_aload_n (q := 35) (i := 0) (j := 0) hc dX8_meet_34 rfl rfl rfl ?_
      refine w_callV_Wv (q := 38) (st := []) (args := []) (p := 43) hc (m_X8_laysAll hK hR) dX8_meet_35 ml_X8_293 cf_X8_laysAll iv_X8_laysAll (k_43 hK) (C := RX8) (T := TX8) (N := 45) rfl rfl (Nat.lt_of_succ_le (Nat.le_of_ble_eq_true rfl)) rfl rfl (Nat.le_of_ble_eq_true rfl) ⟨Nat.le_of_ble_eq_true rfl, Nat.le_of_ble_eq_true rfl⟩ rfl (fun q_6 => ?_)
      refine w_aload_n (q := 39) (i := 0) (j := 0) hc dX8_meet_38 rfl rfl rfl ?_
      refine w_iconst (q := 40) hc dX8_meet_39 ci_1 rfl ?_
      refine w_iload_n (q := 41) (i := 1) (j := 1) hc dX8_meet_40 rfl rfl rfl ?_
      refine w_callV_Wv (q := 44) (st := []) (args := [.int 1, .int a1]) (p := 43) hc (m_X8_builds hK hR) dX8_meet_41 ml_X8_175 cf_X8_builds iv_X8_builds (k_43 hK) (C := RX8) (T := TX8) (N := 45) rfl rfl (Nat.lt_of_succ_le (Nat.le_of_ble_eq_true rfl)) rfl rfl (Nat.le_of_ble_eq_true rfl) ⟨Nat.le_of_ble_eq_true rfl, Nat.le_of_ble_eq_true rfl⟩ rfl (fun q_7 => ?_)
      refine w_aload_n (q := 45) (i := 0) (j := 0) hc dX8_meet_44 rfl rfl rfl ?_
      refine w_iconst (q := 46) hc dX8_meet_45 ci_2 rfl ?_
      refine w_iload_n (q := 47) (i := 2) (j := 2) hc dX8_meet_46 rfl rfl rfl ?_
      refine w_callV_Wv (q := 50) (st := []) (args := [.int 2, .int a2]) (p := 43) hc (m_X8_builds hK hR) dX8_meet_47 ml_X8_175 cf_X8_builds iv_X8_builds (k_43 hK) (C := RX8) (T := TX8) (N := 45) rfl rfl (Nat.lt_of_succ_le (Nat.le_of_ble_eq_true rfl)) rfl rfl (Nat.le_of_ble_eq_true rfl) ⟨Nat.le_of_ble_eq_true rfl, Nat.le_of_ble_eq_true rfl⟩ rfl (fun q_8 => ?_)
      refine w_iconst (q := 51) hc dX8_meet_50 ci_0 rfl ?_
      refine w_istore_n (q := 52) (i := 3) (lv' := [(3, .int 0), (0, .ref 43), (1, .int a1), (2, .int a2)]) hc dX8_meet_51 rfl (hN 3 rfl) rfl rfl ?_
      refine w_iconst (q := 53) hc dX8_meet_52 ci_0 rfl ?_
      refine w_istore (q := 55) (i := 4) (lv' := [(4, .int 0), (3, .int 0), (0, .ref 43), (1, .int a1), (2, .int a2)]) hc dX8_meet_53 (hN 4 rfl) rfl rfl ?_
      refine w_sub [2, 1, 0] rfl ?_
      exact wl_X8_meet_55 hc hq hK hR hn FU 0 0 q_8.1 q_8.2
  · intro j23_321 hj23_321
    refine w_join (fun j22_322 : Option (Int32 × Mm) => WW G 22 [(0, .ref 43), (1, .int a1), (2, .int a2)] [.ref 43, .ref 43] I L (j22_322)) ?_ ?_
    · refine w_iconst (q := 23) hc dX8_meet_22 ci_2 rfl ?_
      exact hj23_321 2
    · intro j22_322 hj22_322
      refine w_ifeq (q := 10) (tgt := 22) hc dX8_meet_7 rfl rfl ?_ ?_
      · exact hj22_322
      · refine w_aload_n (q := 11) (i := 0) (j := 0) hc dX8_meet_10 rfl rfl rfl ?_
        refine w_iload_n (q := 12) (i := 2) (j := 2) hc dX8_meet_11 rfl rfl rfl ?_
        refine w_callV_Rz (q := 15) (st := [.ref 43, .ref 43]) (args := [.int a2]) (p := 43) hc (m_X8_areMoves hK hR) dX8_meet_12 ml_X8_362 cf_X8_areMoves iv_X8_areMoves (k_43 hK) (C := RX8) (T := TX8) (N := 45) rfl rfl (Nat.lt_of_succ_le (Nat.le_of_ble_eq_true rfl)) rfl rfl (Nat.le_of_ble_eq_true rfl) ⟨Nat.le_of_ble_eq_true rfl, Nat.le_of_ble_eq_true rfl⟩ rfl (fun q_2 => ?_)
        refine w_ifeq (q := 18) (tgt := 22) hc dX8_meet_15 rfl rfl ?_ ?_
        · exact hj22_322
        · refine w_iconst (q := 19) hc dX8_meet_18 ci_0 rfl ?_
          refine w_goto (tgt := 23) hc dX8_meet_19 rfl ?_
          exact hj23_321 0
set_option maxRecDepth 100000 in
set_option maxHeartbeats 4000000 in
theorem wl_X8_normal_58 {G : GT (Int32 × Mm)} {rm : Nat} (v1_13 : Int32) (v3_15 : Int32) (hc : Cx G cX8_normal yX8_normal.cls (some .int) 7 164) (hq : RetQ G anIW meW) (hK : gK G = lK rm) (hR : gR G = lR rm) (hn : gnL G = 5) (k0 : Int32 → MI → ML → Option (Int32 × Mm)) (hk0 : ∀ (v2_27 : Int32) (I_28 : MI) (L_29 : ML), WW G 130 [(0, .ref 43), (1, .int v1_13), (2, .int v2_27), (3, .int v3_15)] [] I_28 L_29 (k0 v2_27 I_28 L_29)) : ∀ (n : Nat) (v2_14 : Int32) (v4_16 : Int32) (I_17 : MI) (L_18 : ML), WW G 58 [(0, .ref 43), (1, .int v1_13), (2, .int v2_14), (3, .int v3_15), (4, .int v4_16)] [] I_17 L_18 (f_X8_normal_58 v1_13 v3_15 k0 n v2_14 v4_16 I_17 L_18) := by
  have hN : ∀ i, Nat.blt i 5 = true → i < gnL G := fun i h => hn ▸ Nat.blt_eq.mp h
  intro n
  induction n with
  | zero => intros; exact w_none _ _ _
  | succ n ih =>
    intros v2_14 v4_16 I_17 L_18
    rw [f_X8_normal_58]
    refine w_iload (q := 60) (i := 4) (j := 4) hc dX8_normal_58 rfl rfl ?_
    refine w_aload_n (q := 61) (i := 0) (j := 0) hc dX8_normal_60 rfl rfl rfl ?_
    refine w_callV_Ri (q := 64) (st := [.int v4_16]) (args := []) (p := 43) hc (m_X8_moves hK hR) dX8_normal_61 ml_X8_110 cf_X8_moves iv_X8_moves (k_43 hK) (C := RX8) (T := TX8) (N := 45) rfl rfl (Nat.lt_of_succ_le (Nat.le_of_ble_eq_true rfl)) rfl rfl (Nat.le_of_ble_eq_true rfl) ⟨Nat.le_of_ble_eq_true rfl, Nat.le_of_ble_eq_true rfl⟩ rfl (fun q_19 => ?_)
    refine w_icmpge (q := 67) (tgt := 130) hc dX8_normal_64 rfl rfl ?_ ?_
    · refine w_sub [0, 1, 2, 3] rfl ?_
      exact hk0 v2_14 I_17 L_18
    · refine w_aload_n (q := 68) (i := 0) (j := 0) hc dX8_normal_67 rfl rfl rfl ?_
      refine w_iload_n (q := 69) (i := 3) (j := 3) hc dX8_normal_68 rfl rfl rfl ?_
      refine w_aload_n (q := 70) (i := 0) (j := 0) hc dX8_normal_69 rfl rfl rfl ?_
      refine gf_X8_16 (q := 73) hc dX8_normal_70 (k_43 hK) (r_43_6 hR) rfl ?_
      refine w_callV_Wv (q := 76) (st := []) (args := [.int v3_15, .ref 46]) (p := 43) hc (m_X8_laysMove hK hR (kB hK (k_46 hK))) dX8_normal_73 ml_X8_126 cf_X8_laysMove iv_X8_laysMove (k_43 hK) (C := RX8) (T := TX8) (N := 45) rfl rfl (Nat.lt_of_succ_le (Nat.le_of_ble_eq_true rfl)) rfl rfl (Nat.le_of_ble_eq_true rfl) ⟨Nat.le_of_ble_eq_true rfl, Nat.le_of_ble_eq_true rfl⟩ rfl (fun q_20 => ?_)
      refine w_aload_n (q := 77) (i := 0) (j := 0) hc dX8_normal_76 rfl rfl rfl ?_
      refine w_iload (q := 79) (i := 4) (j := 4) hc dX8_normal_77 rfl rfl ?_
      refine w_aload_n (q := 80) (i := 0) (j := 0) hc dX8_normal_79 rfl rfl rfl ?_
      refine gf_X8_19 (q := 83) hc dX8_normal_80 (k_43 hK) (r_43_7 hR) rfl ?_
      refine w_callV_Wv (q := 86) (st := []) (args := [.int v4_16, .ref 47]) (p := 43) hc (m_X8_laysMove hK hR (kB hK (k_47 hK))) dX8_normal_83 ml_X8_126 cf_X8_laysMove iv_X8_laysMove (k_43 hK) (C := RX8) (T := TX8) (N := 45) rfl rfl (Nat.lt_of_succ_le (Nat.le_of_ble_eq_true rfl)) rfl rfl (Nat.le_of_ble_eq_true rfl) ⟨Nat.le_of_ble_eq_true rfl, Nat.le_of_ble_eq_true rfl⟩ rfl (fun q_21 => ?_)
      refine w_aload_n (q := 87) (i := 0) (j := 0) hc dX8_normal_86 rfl rfl rfl ?_
      refine w_aload_n (q := 88) (i := 0) (j := 0) hc dX8_normal_87 rfl rfl rfl ?_
      refine gf_X8_16 (q := 91) hc dX8_normal_88 (k_43 hK) (r_43_6 hR) rfl ?_
      refine w_aload_n (q := 92) (i := 0) (j := 0) hc dX8_normal_91 rfl rfl rfl ?_
      refine gf_X8_19 (q := 95) hc dX8_normal_92 (k_43 hK) (r_43_7 hR) rfl ?_
      refine w_aload_n (q := 96) (i := 0) (j := 0) hc dX8_normal_95 rfl rfl rfl ?_
      refine gf_X8_22 (q := 99) hc dX8_normal_96 (k_43 hK) (r_43_8 hR) rfl ?_
      refine w_callV_Wv (q := 102) (st := []) (args := [.ref 46, .ref 47, .ref 48]) (p := 43) hc (m_X8_turns hK hR (kB hK (k_46 hK)) (kB hK (k_47 hK)) (kB hK (k_48 hK))) dX8_normal_99 ml_X8_318 cf_X8_turns iv_X8_turns (k_43 hK) (C := RX8) (T := TX8) (N := 45) rfl rfl (Nat.lt_of_succ_le (Nat.le_of_ble_eq_true rfl)) rfl rfl (Nat.le_of_ble_eq_true rfl) ⟨Nat.le_of_ble_eq_true rfl, Nat.le_of_ble_eq_true rfl⟩ rfl (fun q_22 => ?_)
      refine w_iload_n (q := 103) (i := 2) (j := 2) hc dX8_normal_102 rfl rfl rfl ?_
      refine w_ifeq (q := 106) (tgt := 122) hc dX8_normal_103 rfl rfl ?_ ?_
      · refine w_iconst (q := 123) hc dX8_normal_122 ci_0 rfl ?_
        refine w_istore_n (q := 124) (i := 2) (lv' := [(2, .int 0), (0, .ref 43), (1, .int v1_13), (3, .int v3_15), (4, .int v4_16)]) hc dX8_normal_123 rfl (hN 2 rfl) rfl rfl ?_
        refine w_iincB (q := 127) (i := 4) (j := 4) (lv' := fun v4_23 => [(4, .int v4_23), (2, .int 0), (0, .ref 43), (1, .int v1_13), (3, .int v3_15)]) hc dX8_normal_124 rfl ci_1 (hN 4 rfl) (fun _ => rfl) rfl (fun v4_23 => ?_)
        refine w_goto (tgt := 58) hc dX8_normal_127 rfl ?_
        refine w_sub [2, 3, 1, 4, 0] rfl ?_
        exact ih 0 v4_23 q_22.1 q_22.2
      · refine w_aload_n (q := 107) (i := 0) (j := 0) hc dX8_normal_106 rfl rfl rfl ?_
        refine w_iconst (q := 108) hc dX8_normal_107 ci_1 rfl ?_
        refine w_aload_n (q := 109) (i := 0) (j := 0) hc dX8_normal_108 rfl rfl rfl ?_
        refine gf_X8_22 (q := 112) hc dX8_normal_109 (k_43 hK) (r_43_8 hR) rfl ?_
        refine w_callV_Wz (q := 115) (st := []) (args := [.int 1, .ref 48]) (p := 43) hc (m_X8_isMember hK hR (kB hK (k_48 hK))) dX8_normal_112 ml_X8_275 cf_X8_isMember iv_X8_isMember (k_43 hK) (C := RX8) (T := TX8) (N := 45) rfl rfl (Nat.lt_of_succ_le (Nat.le_of_ble_eq_true rfl)) rfl rfl (Nat.le_of_ble_eq_true rfl) ⟨Nat.le_of_ble_eq_true rfl, Nat.le_of_ble_eq_true rfl⟩ rfl (fun q_24 => ?_)
        refine w_ifeq (q := 118) (tgt := 122) hc dX8_normal_115 rfl rfl ?_ ?_
        · refine w_iconst (q := 123) hc dX8_normal_122 ci_0 rfl ?_
          refine w_istore_n (q := 124) (i := 2) (lv' := [(2, .int 0), (0, .ref 43), (1, .int v1_13), (3, .int v3_15), (4, .int v4_16)]) hc dX8_normal_123 rfl (hN 2 rfl) rfl rfl ?_
          refine w_iincB (q := 127) (i := 4) (j := 4) (lv' := fun v4_25 => [(4, .int v4_25), (2, .int 0), (0, .ref 43), (1, .int v1_13), (3, .int v3_15)]) hc dX8_normal_124 rfl ci_1 (hN 4 rfl) (fun _ => rfl) rfl (fun v4_25 => ?_)
          refine w_goto (tgt := 58) hc dX8_normal_127 rfl ?_
          refine w_sub [2, 3, 1, 4, 0] rfl ?_
          exact ih 0 v4_25 q_24.2.1 q_24.2.2
        · refine w_iconst (q := 119) hc dX8_normal_118 ci_1 rfl ?_
          refine w_goto (tgt := 123) hc dX8_normal_119 rfl ?_
          refine w_istore_n (q := 124) (i := 2) (lv' := [(2, .int 1), (0, .ref 43), (1, .int v1_13), (3, .int v3_15), (4, .int v4_16)]) hc dX8_normal_123 rfl (hN 2 rfl) rfl rfl ?_
          refine w_iincB (q := 127) (i := 4) (j := 4) (lv' := fun v4_26 => [(4, .int v4_26), (2, .int 1), (0, .ref 43), (1, .int v1_13), (3, .int v3_15)]) hc dX8_normal_124 rfl ci_1 (hN 4 rfl) (fun _ => rfl) rfl (fun v4_26 => ?_)
          refine w_goto (tgt := 58) hc dX8_normal_127 rfl ?_
          refine w_sub [2, 3, 1, 4, 0] rfl ?_
          exact ih 1 v4_26 q_24.2.1 q_24.2.2
set_option maxRecDepth 100000 in
set_option maxHeartbeats 4000000 in
theorem wl_X8_normal_36 {G : GT (Int32 × Mm)} {rm : Nat} (v1_6 : Int32) (hc : Cx G cX8_normal yX8_normal.cls (some .int) 7 164) (hq : RetQ G anIW meW) (hK : gK G = lK rm) (hR : gR G = lR rm) (hn : gnL G = 5) (k0 : Int32 → MI → ML → Option (Int32 × Mm)) (hk0 : ∀ (v2_32 : Int32) (I_33 : MI) (L_34 : ML), WW G 136 [(2, .int v2_32)] [] I_33 L_34 (k0 v2_32 I_33 L_34)) : ∀ (n : Nat) (v2_7 : Int32) (v3_8 : Int32) (I_9 : MI) (L_10 : ML), WW G 36 [(0, .ref 43), (1, .int v1_6), (2, .int v2_7), (3, .int v3_8)] [] I_9 L_10 (f_X8_normal_36 v1_6 k0 n v2_7 v3_8 I_9 L_10) := by
  have hN : ∀ i, Nat.blt i 5 = true → i < gnL G := fun i h => hn ▸ Nat.blt_eq.mp h
  intro n
  induction n with
  | zero => intros; exact w_none _ _ _
  | succ n ih =>
    intros v2_7 v3_8 I_9 L_10
    rw [f_X8_normal_36]
    refine w_iload_n (q := 37) (i := 3) (j := 3) hc dX8_normal_36 rfl rfl rfl ?_
    refine w_aload_n (q := 38) (i := 0) (j := 0) hc dX8_normal_37 rfl rfl rfl ?_
    refine w_callV_Ri (q := 41) (st := [.int v3_8]) (args := []) (p := 43) hc (m_X8_moves hK hR) dX8_normal_38 ml_X8_110 cf_X8_moves iv_X8_moves (k_43 hK) (C := RX8) (T := TX8) (N := 45) rfl rfl (Nat.lt_of_succ_le (Nat.le_of_ble_eq_true rfl)) rfl rfl (Nat.le_of_ble_eq_true rfl) ⟨Nat.le_of_ble_eq_true rfl, Nat.le_of_ble_eq_true rfl⟩ rfl (fun q_11 => ?_)
    refine w_icmpge (q := 44) (tgt := 136) hc dX8_normal_41 rfl rfl ?_ ?_
    · refine w_sub [2] rfl ?_
      exact hk0 v2_7 I_9 L_10
    · refine w_iload_n (q := 45) (i := 1) (j := 1) hc dX8_normal_44 rfl rfl rfl ?_
      refine w_iload_n (q := 46) (i := 3) (j := 3) hc dX8_normal_45 rfl rfl rfl ?_
      refine w_callS_Rz (q := 49) (st := []) (args := [.int v1_6, .int v3_8]) hc (m_X8_bit hK hR) dX8_normal_46 ml_X8_157 cf_X8_bit st_X8_bit rfl rfl (Nat.le_of_ble_eq_true rfl) ⟨Nat.le_of_ble_eq_true rfl, Nat.le_of_ble_eq_true rfl⟩ rfl (fun q_12 => ?_)
      refine w_ifne (q := 52) (tgt := 55) hc dX8_normal_49 rfl rfl ?_ ?_
      · refine w_goto (tgt := 130) hc dX8_normal_52 rfl ?_
        refine w_iincB (q := 133) (i := 3) (j := 3) (lv' := fun v3_31 => [(3, .int v3_31), (0, .ref 43), (1, .int v1_6), (2, .int v2_7)]) hc dX8_normal_130 rfl ci_1 (hN 3 rfl) (fun _ => rfl) rfl (fun v3_31 => ?_)
        refine w_goto (tgt := 36) hc dX8_normal_133 rfl ?_
        refine w_sub [1, 2, 3, 0] rfl ?_
        exact ih v2_7 v3_31 I_9 L_10
      · refine w_iconst (q := 56) hc dX8_normal_55 ci_0 rfl ?_
        refine w_istore (q := 58) (i := 4) (lv' := [(4, .int 0), (0, .ref 43), (1, .int v1_6), (2, .int v2_7), (3, .int v3_8)]) hc dX8_normal_56 (hN 4 rfl) rfl rfl ?_
        refine w_sub [1, 2, 3, 4, 0] rfl ?_
        refine wl_X8_normal_58 v1_6 v3_8 hc hq hK hR hn _ ?_ FU v2_7 0 I_9 L_10
        intro v2_27 I_28 L_29
        refine w_iincB (q := 133) (i := 3) (j := 3) (lv' := fun v3_30 => [(3, .int v3_30), (0, .ref 43), (1, .int v1_6), (2, .int v2_27)]) hc dX8_normal_130 rfl ci_1 (hN 3 rfl) (fun _ => rfl) rfl (fun v3_30 => ?_)
        refine w_goto (tgt := 36) hc dX8_normal_133 rfl ?_
        refine w_sub [1, 2, 3, 0] rfl ?_
        exact ih v2_27 v3_30 I_28 L_29
set_option maxRecDepth 100000 in
set_option maxHeartbeats 4000000 in
theorem m_X8_normal {l : Launch} {K : KT} {R : MR} {rm : Nat} {a1 : Int32} {I : MI} {L : ML} (hK0 : K = lK rm) (hR0 : R = lR rm) : MFg l yX8_normal cX8_normal 5 (some .int) 7 164 [.ref 43, .int a1] K R I L anIW meW (f_X8_normal a1 I L) := by
  refine mf_of (plainFor_of_name (by decide)) (Nat.le_of_ble_eq_true rfl) ?_
  intro G hc _ hK1 hR1 hn hq
  have hK := hK1.trans hK0
  have hR := hR1.trans hR0
  have hN : ∀ i, Nat.blt i 5 = true → i < gnL G := fun i h => hn ▸ Nat.blt_eq.mp h
  unfold f_X8_normal
  show WW G 0 [(0, .ref 43), (1, .int a1)] [] I L _
  refine w_aload_n (q := 1) (i := 0) (j := 0) hc dX8_normal_0 rfl rfl rfl ?_
  refine w_aload_n (q := 2) (i := 0) (j := 0) hc dX8_normal_1 rfl rfl rfl ?_
  refine w_aload_n (q := 3) (i := 0) (j := 0) hc dX8_normal_2 rfl rfl rfl ?_
  refine w_iload_n (q := 4) (i := 1) (j := 1) hc dX8_normal_3 rfl rfl rfl ?_
  refine w_callV_Rz (q := 7) (st := [.ref 43, .ref 43]) (args := [.int a1]) (p := 43) hc (m_X8_areMoves hK hR) dX8_normal_4 ml_X8_362 cf_X8_areMoves iv_X8_areMoves (k_43 hK) (C := RX8) (T := TX8) (N := 45) rfl rfl (Nat.lt_of_succ_le (Nat.le_of_ble_eq_true rfl)) rfl rfl (Nat.le_of_ble_eq_true rfl) ⟨Nat.le_of_ble_eq_true rfl, Nat.le_of_ble_eq_true rfl⟩ rfl (fun q_1 => ?_)
  refine w_join (fun j15_324 : Int32 → Option (Int32 × Mm) => ∀ (s0_2 : Int32), WW G 15 [(0, .ref 43), (1, .int a1)] [.int s0_2, .ref 43, .ref 43] I L (j15_324 s0_2)) ?_ ?_
  · intro s0_2
    refine w_callV_Ri (q := 18) (st := [.ref 43]) (args := [.int s0_2]) (p := 43) hc (m_X8_whyHere hK hR) dX8_normal_15 ml_X8_260 cf_X8_whyHere iv_X8_whyHere (k_43 hK) (C := RX8) (T := TX8) (N := 45) rfl rfl (Nat.lt_of_succ_le (Nat.le_of_ble_eq_true rfl)) rfl rfl (Nat.le_of_ble_eq_true rfl) ⟨Nat.le_of_ble_eq_true rfl, Nat.le_of_ble_eq_true rfl⟩ rfl (fun q_3 => ?_)
    refine w_callV_Wz (q := 21) (st := []) (args := [.int q_3]) (p := 43) hc (m_X8_is hK hR) dX8_normal_18 ml_X8_194 cf_X8_is iv_X8_is (k_43 hK) (C := RX8) (T := TX8) (N := 45) rfl rfl (Nat.lt_of_succ_le (Nat.le_of_ble_eq_true rfl)) rfl rfl (Nat.le_of_ble_eq_true rfl) ⟨Nat.le_of_ble_eq_true rfl, Nat.le_of_ble_eq_true rfl⟩ rfl (fun q_4 => ?_)
    refine w_ifne (q := 24) (tgt := 26) hc dX8_normal_21 rfl rfl ?_ ?_
    · refine w_iconst (q := 25) hc dX8_normal_24 ci_m1 rfl ?_
      exact w_ireturn (v := (-1)) hc hq dX8_normal_25 rfl rfl rfl
    · refine w_aload_n (q := 27) (i := 0) (j := 0) hc dX8_normal_26 rfl rfl rfl ?_
      refine w_iconst (q := 28) hc dX8_normal_27 ci_1 rfl ?_
      refine w_iload_n (q := 29) (i := 1) (j := 1) hc dX8_normal_28 rfl rfl rfl ?_
      refine w_callV_Wv (q := 32) (st := []) (args := [.int 1, .int a1]) (p := 43) hc (m_X8_builds hK hR) dX8_normal_29 ml_X8_175 cf_X8_builds iv_X8_builds (k_43 hK) (C := RX8) (T := TX8) (N := 45) rfl rfl (Nat.lt_of_succ_le (Nat.le_of_ble_eq_true rfl)) rfl rfl (Nat.le_of_ble_eq_true rfl) ⟨Nat.le_of_ble_eq_true rfl, Nat.le_of_ble_eq_true rfl⟩ rfl (fun q_5 => ?_)
      refine w_iconst (q := 33) hc dX8_normal_32 ci_1 rfl ?_
      refine w_istore_n (q := 34) (i := 2) (lv' := [(2, .int 1), (0, .ref 43), (1, .int a1)]) hc dX8_normal_33 rfl (hN 2 rfl) rfl rfl ?_
      refine w_iconst (q := 35) hc dX8_normal_34 ci_0 rfl ?_
      refine w_istore_n (q := 36) (i := 3) (lv' := [(3, .int 0), (2, .int 1), (0, .ref 43), (1, .int a1)]) hc dX8_normal_35 rfl (hN 3 rfl) rfl rfl ?_
      refine w_sub [2, 3, 1, 0] rfl ?_
      refine wl_X8_normal_36 a1 hc hq hK hR hn _ ?_ FU 1 0 q_5.1 q_5.2
      intro v2_32 I_33 L_34
      refine w_iload_n (q := 137) (i := 2) (j := 0) hc dX8_normal_136 rfl rfl rfl ?_
      refine w_ifeq (q := 140) (tgt := 144) hc dX8_normal_137 rfl rfl ?_ ?_
      · refine w_iconst (q := 145) hc dX8_normal_144 ci_0 rfl ?_
        exact w_ireturn (v := 0) hc hq dX8_normal_145 rfl rfl rfl
      · refine w_iconst (q := 141) hc dX8_normal_140 ci_1 rfl ?_
        refine w_goto (tgt := 145) hc dX8_normal_141 rfl ?_
        exact w_ireturn (v := 1) hc hq dX8_normal_145 rfl rfl rfl
  · intro j15_324 hj15_324
    refine w_ifeq (q := 10) (tgt := 14) hc dX8_normal_7 rfl rfl ?_ ?_
    · refine w_iconst (q := 15) hc dX8_normal_14 ci_2 rfl ?_
      exact hj15_324 2
    · refine w_iconst (q := 11) hc dX8_normal_10 ci_0 rfl ?_
      refine w_goto (tgt := 15) hc dX8_normal_11 rfl ?_
      exact hj15_324 0
set_option maxRecDepth 100000 in
set_option maxHeartbeats 4000000 in
theorem m_X8_isWhole {l : Launch} {K : KT} {R : MR} {rm : Nat} {a1 : Int32} {I : MI} {L : ML} (hK0 : K = lK rm) (hR0 : R = lR rm) : MFg l yX8_isWhole cX8_isWhole 2 (some .boolean) 9 204 [.ref 43, .int a1] K R I L anZW meW (f_X8_isWhole a1 I L) := by
  refine mf_of (plainFor_of_name (by decide)) (Nat.le_of_ble_eq_true rfl) ?_
  intro G hc _ hK1 hR1 hn hq
  have hK := hK1.trans hK0
  have hR := hR1.trans hR0
  have hN : ∀ i, Nat.blt i 2 = true → i < gnL G := fun i h => hn ▸ Nat.blt_eq.mp h
  unfold f_X8_isWhole
  show WW G 0 [(0, .ref 43), (1, .int a1)] [] I L _
  refine w_aload_n (q := 1) (i := 0) (j := 0) hc dX8_isWhole_0 rfl rfl rfl ?_
  refine w_iconst (q := 2) hc dX8_isWhole_1 ci_1 rfl ?_
  refine w_iload_n (q := 3) (i := 1) (j := 1) hc dX8_isWhole_2 rfl rfl rfl ?_
  refine w_callV_Wv (q := 6) (st := []) (args := [.int 1, .int a1]) (p := 43) hc (m_X8_builds hK hR) dX8_isWhole_3 ml_X8_175 cf_X8_builds iv_X8_builds (k_43 hK) (C := RX8) (T := TX8) (N := 45) rfl rfl (Nat.lt_of_succ_le (Nat.le_of_ble_eq_true rfl)) rfl rfl (Nat.le_of_ble_eq_true rfl) ⟨Nat.le_of_ble_eq_true rfl, Nat.le_of_ble_eq_true rfl⟩ rfl (fun q_1 => ?_)
  refine w_aload_n (q := 7) (i := 0) (j := 0) hc dX8_isWhole_6 rfl rfl rfl ?_
  refine w_iconst (q := 8) hc dX8_isWhole_7 ci_1 rfl ?_
  refine w_callV_Ri (q := 11) (st := []) (args := [.int 1]) (p := 43) hc (m_X8_orderOf hK hR) dX8_isWhole_8 ml_X8_181 cf_X8_orderOf iv_X8_orderOf (k_43 hK) (C := RX8) (T := TX8) (N := 45) rfl rfl (Nat.lt_of_succ_le (Nat.le_of_ble_eq_true rfl)) rfl rfl (Nat.le_of_ble_eq_true rfl) ⟨Nat.le_of_ble_eq_true rfl, Nat.le_of_ble_eq_true rfl⟩ rfl (fun q_2 => ?_)
  refine w_aload_n (q := 12) (i := 0) (j := 0) hc dX8_isWhole_11 rfl rfl rfl ?_
  refine w_callV_Wi (q := 15) (st := [.int q_2]) (args := []) (p := 43) hc (m_X8_orderNow hK hR) dX8_isWhole_12 ml_X8_185 cf_X8_orderNow iv_X8_orderNow (k_43 hK) (C := RX8) (T := TX8) (N := 45) rfl rfl (Nat.lt_of_succ_le (Nat.le_of_ble_eq_true rfl)) rfl rfl (Nat.le_of_ble_eq_true rfl) ⟨Nat.le_of_ble_eq_true rfl, Nat.le_of_ble_eq_true rfl⟩ rfl (fun q_3 => ?_)
  refine w_icmpne (q := 18) (tgt := 22) hc dX8_isWhole_15 rfl rfl ?_ ?_
  · refine w_iconst (q := 19) hc dX8_isWhole_18 ci_1 rfl ?_
    refine w_goto (tgt := 23) hc dX8_isWhole_19 rfl ?_
    exact w_ireturn (v := b2i true) hc hq dX8_isWhole_23 (nar_b2i true) rfl rfl
  · refine w_iconst (q := 23) hc dX8_isWhole_22 ci_0 rfl ?_
    exact w_ireturn (v := b2i false) hc hq dX8_isWhole_23 (nar_b2i false) rfl rfl
set_option maxRecDepth 100000 in
set_option maxHeartbeats 4000000 in
theorem wl_X8_spare_27 {G : GT (Int32 × Mm)} {rm : Nat} (v1_5 : Int32) (hc : Cx G cX8_spare yX8_spare.cls (some .int) 10 225) (hq : RetQ G anIW meW) (hK : gK G = lK rm) (hR : gR G = lR rm) (hn : gnL G = 4) : ∀ (n : Nat) (v2_6 : Int32) (v3_7 : Int32) (I_8 : MI) (L_9 : ML), WW G 27 [(0, .ref 43), (1, .int v1_5), (2, .int v2_6), (3, .int v3_7)] [] I_8 L_9 (f_X8_spare_27 v1_5 n v2_6 v3_7 I_8 L_9) := by
  have hN : ∀ i, Nat.blt i 4 = true → i < gnL G := fun i h => hn ▸ Nat.blt_eq.mp h
  intro n
  induction n with
  | zero => intros; exact w_none _ _ _
  | succ n ih =>
    intros v2_6 v3_7 I_8 L_9
    rw [f_X8_spare_27]
    refine w_iload_n (q := 28) (i := 3) (j := 3) hc dX8_spare_27 rfl rfl rfl ?_
    refine w_aload_n (q := 29) (i := 0) (j := 0) hc dX8_spare_28 rfl rfl rfl ?_
    refine w_callV_Ri (q := 32) (st := [.int v3_7]) (args := []) (p := 43) hc (m_X8_moves hK hR) dX8_spare_29 ml_X8_110 cf_X8_moves iv_X8_moves (k_43 hK) (C := RX8) (T := TX8) (N := 45) rfl rfl (Nat.lt_of_succ_le (Nat.le_of_ble_eq_true rfl)) rfl rfl (Nat.le_of_ble_eq_true rfl) ⟨Nat.le_of_ble_eq_true rfl, Nat.le_of_ble_eq_true rfl⟩ rfl (fun q_10 => ?_)
    refine w_icmpge (q := 35) (tgt := 65) hc dX8_spare_32 rfl rfl ?_ ?_
    · refine w_iload_n (q := 66) (i := 2) (j := 2) hc dX8_spare_65 rfl rfl rfl ?_
      exact w_ireturn (v := v2_6) hc hq dX8_spare_66 rfl rfl rfl
    · refine w_iload_n (q := 36) (i := 2) (j := 2) hc dX8_spare_35 rfl rfl rfl ?_
      refine w_aload_n (q := 37) (i := 0) (j := 0) hc dX8_spare_36 rfl rfl rfl ?_
      refine w_iload_n (q := 38) (i := 1) (j := 1) hc dX8_spare_37 rfl rfl rfl ?_
      refine w_iconst (q := 39) hc dX8_spare_38 ci_1 rfl ?_
      refine w_iload_n (q := 40) (i := 3) (j := 3) hc dX8_spare_39 rfl rfl rfl ?_
      refine w_ishl (q := 41) hc dX8_spare_40  rfl ?_
      refine w_iconst (q := 42) hc dX8_spare_41 ci_m1 rfl ?_
      refine w_ixor (q := 43) hc dX8_spare_42  rfl ?_
      refine w_iand (q := 44) hc dX8_spare_43  rfl ?_
      refine w_callV_Wz (q := 47) (st := [.int v2_6]) (args := [.int (v1_5 &&& ((shl 1 v3_7) ^^^ (-1)))]) (p := 43) hc (m_X8_isWhole hK hR) dX8_spare_44 ml_X8_365 cf_X8_isWhole iv_X8_isWhole (k_43 hK) (C := RX8) (T := TX8) (N := 45) rfl rfl (Nat.lt_of_succ_le (Nat.le_of_ble_eq_true rfl)) rfl rfl (Nat.le_of_ble_eq_true rfl) ⟨Nat.le_of_ble_eq_true rfl, Nat.le_of_ble_eq_true rfl⟩ rfl (fun q_11 => ?_)
      refine w_ifeq (q := 50) (tgt := 56) hc dX8_spare_47 rfl rfl ?_ ?_
      · refine w_iconst (q := 57) hc dX8_spare_56 ci_0 rfl ?_
        refine w_ior (q := 58) hc dX8_spare_57  rfl ?_
        refine w_istore_nB (q := 59) (i := 2) (lv' := fun v2_12 => [(2, .int v2_12), (0, .ref 43), (1, .int v1_5), (3, .int v3_7)]) hc dX8_spare_58 rfl (hN 2 rfl) (fun _ => rfl) rfl (fun v2_12 => ?_)
        refine w_iincB (q := 62) (i := 3) (j := 3) (lv' := fun v3_13 => [(3, .int v3_13), (2, .int v2_12), (0, .ref 43), (1, .int v1_5)]) hc dX8_spare_59 rfl ci_1 (hN 3 rfl) (fun _ => rfl) rfl (fun v3_13 => ?_)
        refine w_goto (tgt := 27) hc dX8_spare_62 rfl ?_
        refine w_sub [2, 3, 1, 0] rfl ?_
        exact ih v2_12 v3_13 q_11.2.1 q_11.2.2
      · refine w_iconst (q := 51) hc dX8_spare_50 ci_1 rfl ?_
        refine w_iload_n (q := 52) (i := 3) (j := 3) hc dX8_spare_51 rfl rfl rfl ?_
        refine w_ishl (q := 53) hc dX8_spare_52  rfl ?_
        refine w_goto (tgt := 57) hc dX8_spare_53 rfl ?_
        refine w_ior (q := 58) hc dX8_spare_57  rfl ?_
        refine w_istore_nB (q := 59) (i := 2) (lv' := fun v2_14 => [(2, .int v2_14), (0, .ref 43), (1, .int v1_5), (3, .int v3_7)]) hc dX8_spare_58 rfl (hN 2 rfl) (fun _ => rfl) rfl (fun v2_14 => ?_)
        refine w_iincB (q := 62) (i := 3) (j := 3) (lv' := fun v3_15 => [(3, .int v3_15), (2, .int v2_14), (0, .ref 43), (1, .int v1_5)]) hc dX8_spare_59 rfl ci_1 (hN 3 rfl) (fun _ => rfl) rfl (fun v3_15 => ?_)
        refine w_goto (tgt := 27) hc dX8_spare_62 rfl ?_
        refine w_sub [2, 3, 1, 0] rfl ?_
        exact ih v2_14 v3_15 q_11.2.1 q_11.2.2
set_option maxRecDepth 100000 in
set_option maxHeartbeats 4000000 in
theorem m_X8_spare {l : Launch} {K : KT} {R : MR} {rm : Nat} {I : MI} {L : ML} (hK0 : K = lK rm) (hR0 : R = lR rm) : MFg l yX8_spare cX8_spare 4 (some .int) 10 225 [.ref 43] K R I L anIW meW (f_X8_spare I L) := by
  refine mf_of (plainFor_of_name (by decide)) (Nat.le_of_ble_eq_true rfl) ?_
  intro G hc _ hK1 hR1 hn hq
  have hK := hK1.trans hK0
  have hR := hR1.trans hR0
  have hN : ∀ i, Nat.blt i 4 = true → i < gnL G := fun i h => hn ▸ Nat.blt_eq.mp h
  unfold f_X8_spare
  show WW G 0 [(0, .ref 43)] [] I L _
  refine w_aload_n (q := 1) (i := 0) (j := 0) hc dX8_spare_0 rfl rfl rfl ?_
  refine w_aload_n (q := 2) (i := 0) (j := 0) hc dX8_spare_1 rfl rfl rfl ?_
  refine w_iconst (q := 3) hc dX8_spare_2 ci_0 rfl ?_
  refine w_callV_Ri (q := 6) (st := [.ref 43]) (args := [.int 0]) (p := 43) hc (m_X8_whyHere hK hR) dX8_spare_3 ml_X8_260 cf_X8_whyHere iv_X8_whyHere (k_43 hK) (C := RX8) (T := TX8) (N := 45) rfl rfl (Nat.lt_of_succ_le (Nat.le_of_ble_eq_true rfl)) rfl rfl (Nat.le_of_ble_eq_true rfl) ⟨Nat.le_of_ble_eq_true rfl, Nat.le_of_ble_eq_true rfl⟩ rfl (fun q_1 => ?_)
  refine w_callV_Wz (q := 9) (st := []) (args := [.int q_1]) (p := 43) hc (m_X8_is hK hR) dX8_spare_6 ml_X8_194 cf_X8_is iv_X8_is (k_43 hK) (C := RX8) (T := TX8) (N := 45) rfl rfl (Nat.lt_of_succ_le (Nat.le_of_ble_eq_true rfl)) rfl rfl (Nat.le_of_ble_eq_true rfl) ⟨Nat.le_of_ble_eq_true rfl, Nat.le_of_ble_eq_true rfl⟩ rfl (fun q_2 => ?_)
  refine w_ifne (q := 12) (tgt := 14) hc dX8_spare_9 rfl rfl ?_ ?_
  · refine w_iconst (q := 13) hc dX8_spare_12 ci_m1 rfl ?_
    exact w_ireturn (v := (-1)) hc hq dX8_spare_13 rfl rfl rfl
  · refine w_iconst (q := 15) hc dX8_spare_14 ci_1 rfl ?_
    refine w_aload_n (q := 16) (i := 0) (j := 0) hc dX8_spare_15 rfl rfl rfl ?_
    refine w_callV_Ri (q := 19) (st := [.int 1]) (args := []) (p := 43) hc (m_X8_moves hK hR) dX8_spare_16 ml_X8_110 cf_X8_moves iv_X8_moves (k_43 hK) (C := RX8) (T := TX8) (N := 45) rfl rfl (Nat.lt_of_succ_le (Nat.le_of_ble_eq_true rfl)) rfl rfl (Nat.le_of_ble_eq_true rfl) ⟨Nat.le_of_ble_eq_true rfl, Nat.le_of_ble_eq_true rfl⟩ rfl (fun q_3 => ?_)
    refine w_ishl (q := 20) hc dX8_spare_19  rfl ?_
    refine w_iconst (q := 21) hc dX8_spare_20 ci_1 rfl ?_
    refine w_isub (q := 22) hc dX8_spare_21  rfl ?_
    refine w_istore_nB (q := 23) (i := 1) (lv' := fun v1_4 => [(1, .int v1_4), (0, .ref 43)]) hc dX8_spare_22 rfl (hN 1 rfl) (fun _ => rfl) rfl (fun v1_4 => ?_)
    refine w_iconst (q := 24) hc dX8_spare_23 ci_0 rfl ?_
    refine w_istore_n (q := 25) (i := 2) (lv' := [(2, .int 0), (1, .int v1_4), (0, .ref 43)]) hc dX8_spare_24 rfl (hN 2 rfl) rfl rfl ?_
    refine w_iconst (q := 26) hc dX8_spare_25 ci_0 rfl ?_
    refine w_istore_n (q := 27) (i := 3) (lv' := [(3, .int 0), (2, .int 0), (1, .int v1_4), (0, .ref 43)]) hc dX8_spare_26 rfl (hN 3 rfl) rfl rfl ?_
    refine w_sub [3, 2, 1, 0] rfl ?_
    exact wl_X8_spare_27 v1_4 hc hq hK hR hn FU 0 0 q_2.2.1 q_2.2.2
set_option maxRecDepth 100000 in
set_option maxHeartbeats 4000000 in
theorem wl_X8_fewest_25 {G : GT (Int32 × Mm)} {rm : Nat} (hc : Cx G cX8_fewest yX8_fewest.cls (some .int) 10 225) (hq : RetQ G anIW meW) (hK : gK G = lK rm) (hR : gR G = lR rm) (hn : gnL G = 3) : ∀ (n : Nat) (v1_5 : Int32) (v2_6 : Int32) (I_7 : MI) (L_8 : ML), WW G 25 [(0, .ref 43), (1, .int v1_5), (2, .int v2_6)] [] I_7 L_8 (f_X8_fewest_25 n v1_5 v2_6 I_7 L_8) := by
  have hN : ∀ i, Nat.blt i 3 = true → i < gnL G := fun i h => hn ▸ Nat.blt_eq.mp h
  intro n
  induction n with
  | zero => intros; exact w_none _ _ _
  | succ n ih =>
    intros v1_5 v2_6 I_7 L_8
    rw [f_X8_fewest_25]
    refine w_iload_n (q := 26) (i := 2) (j := 2) hc dX8_fewest_25 rfl rfl rfl ?_
    refine w_iflt (q := 29) (tgt := 60) hc dX8_fewest_26 rfl rfl ?_ ?_
    · refine w_iload_n (q := 61) (i := 1) (j := 1) hc dX8_fewest_60 rfl rfl rfl ?_
      exact w_ireturn (v := v1_5) hc hq dX8_fewest_61 rfl rfl rfl
    · refine w_iload_n (q := 30) (i := 2) (j := 2) hc dX8_fewest_29 rfl rfl rfl ?_
      refine w_callS_Ri (q := 33) (st := []) (args := [.int v2_6]) hc (m_X8_bits hK hR) dX8_fewest_30 ml_X8_368 cf_X8_bits st_X8_bits rfl rfl (Nat.le_of_ble_eq_true rfl) ⟨Nat.le_of_ble_eq_true rfl, Nat.le_of_ble_eq_true rfl⟩ rfl (fun q_9 => ?_)
      refine w_iload_n (q := 34) (i := 1) (j := 1) hc dX8_fewest_33 rfl rfl rfl ?_
      refine w_callS_Ri (q := 37) (st := [.int q_9]) (args := [.int v1_5]) hc (m_X8_bits hK hR) dX8_fewest_34 ml_X8_368 cf_X8_bits st_X8_bits rfl rfl (Nat.le_of_ble_eq_true rfl) ⟨Nat.le_of_ble_eq_true rfl, Nat.le_of_ble_eq_true rfl⟩ rfl (fun q_10 => ?_)
      refine w_icmpgt (q := 40) (tgt := 52) hc dX8_fewest_37 rfl rfl ?_ ?_
      · refine w_iload_n (q := 53) (i := 1) (j := 1) hc dX8_fewest_52 rfl rfl rfl ?_
        refine w_istore_n (q := 54) (i := 1) (lv' := [(1, .int v1_5), (0, .ref 43), (2, .int v2_6)]) hc dX8_fewest_53 rfl (hN 1 rfl) rfl rfl ?_
        refine w_iincB (q := 57) (i := 2) (j := 2) (lv' := fun v2_11 => [(2, .int v2_11), (1, .int v1_5), (0, .ref 43)]) hc dX8_fewest_54 rfl ci_m1 (hN 2 rfl) (fun _ => rfl) rfl (fun v2_11 => ?_)
        refine w_goto (tgt := 25) hc dX8_fewest_57 rfl ?_
        refine w_sub [2, 1, 0] rfl ?_
        exact ih v1_5 v2_11 I_7 L_8
      · refine w_aload_n (q := 41) (i := 0) (j := 0) hc dX8_fewest_40 rfl rfl rfl ?_
        refine w_iload_n (q := 42) (i := 2) (j := 2) hc dX8_fewest_41 rfl rfl rfl ?_
        refine w_callV_Wz (q := 45) (st := []) (args := [.int v2_6]) (p := 43) hc (m_X8_isWhole hK hR) dX8_fewest_42 ml_X8_365 cf_X8_isWhole iv_X8_isWhole (k_43 hK) (C := RX8) (T := TX8) (N := 45) rfl rfl (Nat.lt_of_succ_le (Nat.le_of_ble_eq_true rfl)) rfl rfl (Nat.le_of_ble_eq_true rfl) ⟨Nat.le_of_ble_eq_true rfl, Nat.le_of_ble_eq_true rfl⟩ rfl (fun q_12 => ?_)
        refine w_ifeq (q := 48) (tgt := 52) hc dX8_fewest_45 rfl rfl ?_ ?_
        · refine w_iload_n (q := 53) (i := 1) (j := 1) hc dX8_fewest_52 rfl rfl rfl ?_
          refine w_istore_n (q := 54) (i := 1) (lv' := [(1, .int v1_5), (0, .ref 43), (2, .int v2_6)]) hc dX8_fewest_53 rfl (hN 1 rfl) rfl rfl ?_
          refine w_iincB (q := 57) (i := 2) (j := 2) (lv' := fun v2_13 => [(2, .int v2_13), (1, .int v1_5), (0, .ref 43)]) hc dX8_fewest_54 rfl ci_m1 (hN 2 rfl) (fun _ => rfl) rfl (fun v2_13 => ?_)
          refine w_goto (tgt := 25) hc dX8_fewest_57 rfl ?_
          refine w_sub [2, 1, 0] rfl ?_
          exact ih v1_5 v2_13 q_12.2.1 q_12.2.2
        · refine w_iload_n (q := 49) (i := 2) (j := 2) hc dX8_fewest_48 rfl rfl rfl ?_
          refine w_goto (tgt := 53) hc dX8_fewest_49 rfl ?_
          refine w_istore_n (q := 54) (i := 1) (lv' := [(1, .int v2_6), (0, .ref 43), (2, .int v2_6)]) hc dX8_fewest_53 rfl (hN 1 rfl) rfl rfl ?_
          refine w_iincB (q := 57) (i := 2) (j := 2) (lv' := fun v2_14 => [(2, .int v2_14), (1, .int v2_6), (0, .ref 43)]) hc dX8_fewest_54 rfl ci_m1 (hN 2 rfl) (fun _ => rfl) rfl (fun v2_14 => ?_)
          refine w_goto (tgt := 25) hc dX8_fewest_57 rfl ?_
          refine w_sub [2, 1, 0] rfl ?_
          exact ih v2_6 v2_14 q_12.2.1 q_12.2.2
set_option maxRecDepth 100000 in
set_option maxHeartbeats 4000000 in
theorem m_X8_fewest {l : Launch} {K : KT} {R : MR} {rm : Nat} {I : MI} {L : ML} (hK0 : K = lK rm) (hR0 : R = lR rm) : MFg l yX8_fewest cX8_fewest 3 (some .int) 10 225 [.ref 43] K R I L anIW meW (f_X8_fewest I L) := by
  refine mf_of (plainFor_of_name (by decide)) (Nat.le_of_ble_eq_true rfl) ?_
  intro G hc _ hK1 hR1 hn hq
  have hK := hK1.trans hK0
  have hR := hR1.trans hR0
  have hN : ∀ i, Nat.blt i 3 = true → i < gnL G := fun i h => hn ▸ Nat.blt_eq.mp h
  unfold f_X8_fewest
  show WW G 0 [(0, .ref 43)] [] I L _
  refine w_aload_n (q := 1) (i := 0) (j := 0) hc dX8_fewest_0 rfl rfl rfl ?_
  refine w_aload_n (q := 2) (i := 0) (j := 0) hc dX8_fewest_1 rfl rfl rfl ?_
  refine w_iconst (q := 3) hc dX8_fewest_2 ci_0 rfl ?_
  refine w_callV_Ri (q := 6) (st := [.ref 43]) (args := [.int 0]) (p := 43) hc (m_X8_whyHere hK hR) dX8_fewest_3 ml_X8_260 cf_X8_whyHere iv_X8_whyHere (k_43 hK) (C := RX8) (T := TX8) (N := 45) rfl rfl (Nat.lt_of_succ_le (Nat.le_of_ble_eq_true rfl)) rfl rfl (Nat.le_of_ble_eq_true rfl) ⟨Nat.le_of_ble_eq_true rfl, Nat.le_of_ble_eq_true rfl⟩ rfl (fun q_1 => ?_)
  refine w_callV_Wz (q := 9) (st := []) (args := [.int q_1]) (p := 43) hc (m_X8_is hK hR) dX8_fewest_6 ml_X8_194 cf_X8_is iv_X8_is (k_43 hK) (C := RX8) (T := TX8) (N := 45) rfl rfl (Nat.lt_of_succ_le (Nat.le_of_ble_eq_true rfl)) rfl rfl (Nat.le_of_ble_eq_true rfl) ⟨Nat.le_of_ble_eq_true rfl, Nat.le_of_ble_eq_true rfl⟩ rfl (fun q_2 => ?_)
  refine w_ifne (q := 12) (tgt := 14) hc dX8_fewest_9 rfl rfl ?_ ?_
  · refine w_iconst (q := 13) hc dX8_fewest_12 ci_m1 rfl ?_
    exact w_ireturn (v := (-1)) hc hq dX8_fewest_13 rfl rfl rfl
  · refine w_iconst (q := 15) hc dX8_fewest_14 ci_1 rfl ?_
    refine w_aload_n (q := 16) (i := 0) (j := 0) hc dX8_fewest_15 rfl rfl rfl ?_
    refine w_callV_Ri (q := 19) (st := [.int 1]) (args := []) (p := 43) hc (m_X8_moves hK hR) dX8_fewest_16 ml_X8_110 cf_X8_moves iv_X8_moves (k_43 hK) (C := RX8) (T := TX8) (N := 45) rfl rfl (Nat.lt_of_succ_le (Nat.le_of_ble_eq_true rfl)) rfl rfl (Nat.le_of_ble_eq_true rfl) ⟨Nat.le_of_ble_eq_true rfl, Nat.le_of_ble_eq_true rfl⟩ rfl (fun q_3 => ?_)
    refine w_ishl (q := 20) hc dX8_fewest_19  rfl ?_
    refine w_iconst (q := 21) hc dX8_fewest_20 ci_1 rfl ?_
    refine w_isub (q := 22) hc dX8_fewest_21  rfl ?_
    refine w_istore_nB (q := 23) (i := 1) (lv' := fun v1_4 => [(1, .int v1_4), (0, .ref 43)]) hc dX8_fewest_22 rfl (hN 1 rfl) (fun _ => rfl) rfl (fun v1_4 => ?_)
    refine w_iload_n (q := 24) (i := 1) (j := 0) hc dX8_fewest_23 rfl rfl rfl ?_
    refine w_istore_n (q := 25) (i := 2) (lv' := [(2, .int v1_4), (1, .int v1_4), (0, .ref 43)]) hc dX8_fewest_24 rfl (hN 2 rfl) rfl rfl ?_
    refine w_sub [2, 1, 0] rfl ?_
    exact wl_X8_fewest_25 hc hq hK hR hn FU v1_4 v1_4 q_2.2.1 q_2.2.2
set_option maxRecDepth 100000 in
set_option maxHeartbeats 4000000 in
theorem wl_X8_holds_33 {G : GT (Int32 × Mm)} {rm : Nat} (v1_8 : Int32) (v3_10 : Int32) (L : ML) (hc : Cx G cX8_holds yX8_holds.cls (some .int) 6 141) (hq : RetQ G anIW meW) (hK : gK G = lK rm) (hR : gR G = lR rm) (hn : gnL G = 5) (k0 : Int32 → MI → Option (Int32 × Mm)) (hk0 : ∀ (v2_22 : Int32) (I_23 : MI), WW G 79 [(0, .ref 43), (1, .int v1_8), (2, .int v2_22), (3, .int v3_10)] [] I_23 L (k0 v2_22 I_23)) : ∀ (n : Nat) (v2_9 : Int32) (v4_11 : Int32) (I_12 : MI), WW G 33 [(0, .ref 43), (1, .int v1_8), (2, .int v2_9), (3, .int v3_10), (4, .int v4_11)] [] I_12 L (f_X8_holds_33 v1_8 v3_10 L k0 n v2_9 v4_11 I_12) := by
  have hN : ∀ i, Nat.blt i 5 = true → i < gnL G := fun i h => hn ▸ Nat.blt_eq.mp h
  intro n
  induction n with
  | zero => intros; exact w_none _ _ _
  | succ n ih =>
    intros v2_9 v4_11 I_12
    rw [f_X8_holds_33]
    refine w_iload (q := 35) (i := 4) (j := 4) hc dX8_holds_33 rfl rfl ?_
    refine w_bipush (q := 37) hc dX8_holds_35 cb_10 rfl ?_
    refine w_icmpge (q := 40) (tgt := 79) hc dX8_holds_37 rfl rfl ?_ ?_
    · refine w_sub [0, 1, 2, 3] rfl ?_
      exact hk0 v2_9 I_12
    · refine w_iload_n (q := 41) (i := 1) (j := 1) hc dX8_holds_40 rfl rfl rfl ?_
      refine w_iload (q := 43) (i := 4) (j := 4) hc dX8_holds_41 rfl rfl ?_
      refine w_callS_Rz (q := 46) (st := []) (args := [.int v1_8, .int v4_11]) hc (m_X8_bit hK hR) dX8_holds_43 ml_X8_157 cf_X8_bit st_X8_bit rfl rfl (Nat.le_of_ble_eq_true rfl) ⟨Nat.le_of_ble_eq_true rfl, Nat.le_of_ble_eq_true rfl⟩ rfl (fun q_13 => ?_)
      refine w_iload_n (q := 47) (i := 3) (j := 3) hc dX8_holds_46 rfl rfl rfl ?_
      refine w_iconst (q := 48) hc dX8_holds_47 ci_1 rfl ?_
      refine w_icmpne (q := 51) (tgt := 55) hc dX8_holds_48 rfl rfl ?_ ?_
      · refine w_iconst (q := 52) hc dX8_holds_51 ci_1 rfl ?_
        refine w_goto (tgt := 56) hc dX8_holds_52 rfl ?_
        refine w_icmpeq (q := 59) (tgt := 62) hc dX8_holds_56 rfl rfl ?_ ?_
        · refine w_aload_n (q := 63) (i := 0) (j := 0) hc dX8_holds_62 rfl rfl rfl ?_
          refine gf_X8_31 (q := 66) hc dX8_holds_63 (k_43 hK) (r_43_11 hR) rfl ?_
          refine w_iload_n (q := 67) (i := 2) (j := 2) hc dX8_holds_66 rfl rfl rfl ?_
          refine w_iload (q := 69) (i := 4) (j := 4) hc dX8_holds_67 rfl rfl ?_
          refine w_iast (q := 70) hc dX8_holds_69 (k_51 hK) rfl (fun I_18 => ?_)
          refine w_iincB (q := 73) (i := 2) (j := 2) (lv' := fun v2_19 => [(2, .int v2_19), (0, .ref 43), (1, .int v1_8), (3, .int v3_10), (4, .int v4_11)]) hc dX8_holds_70 rfl ci_1 (hN 2 rfl) (fun _ => rfl) rfl (fun v2_19 => ?_)
          refine w_iincB (q := 76) (i := 4) (j := 4) (lv' := fun v4_20 => [(4, .int v4_20), (2, .int v2_19), (0, .ref 43), (1, .int v1_8), (3, .int v3_10)]) hc dX8_holds_73 rfl ci_1 (hN 4 rfl) (fun _ => rfl) rfl (fun v4_20 => ?_)
          refine w_goto (tgt := 33) hc dX8_holds_76 rfl ?_
          refine w_sub [2, 3, 1, 4, 0] rfl ?_
          exact ih v2_19 v4_20 I_18
        · refine w_goto (tgt := 73) hc dX8_holds_59 rfl ?_
          refine w_iincB (q := 76) (i := 4) (j := 4) (lv' := fun v4_21 => [(4, .int v4_21), (0, .ref 43), (1, .int v1_8), (2, .int v2_9), (3, .int v3_10)]) hc dX8_holds_73 rfl ci_1 (hN 4 rfl) (fun _ => rfl) rfl (fun v4_21 => ?_)
          refine w_goto (tgt := 33) hc dX8_holds_76 rfl ?_
          refine w_sub [1, 2, 3, 4, 0] rfl ?_
          exact ih v2_9 v4_21 I_12
      · refine w_iconst (q := 56) hc dX8_holds_55 ci_0 rfl ?_
        refine w_icmpeq (q := 59) (tgt := 62) hc dX8_holds_56 rfl rfl ?_ ?_
        · refine w_aload_n (q := 63) (i := 0) (j := 0) hc dX8_holds_62 rfl rfl rfl ?_
          refine gf_X8_31 (q := 66) hc dX8_holds_63 (k_43 hK) (r_43_11 hR) rfl ?_
          refine w_iload_n (q := 67) (i := 2) (j := 2) hc dX8_holds_66 rfl rfl rfl ?_
          refine w_iload (q := 69) (i := 4) (j := 4) hc dX8_holds_67 rfl rfl ?_
          refine w_iast (q := 70) hc dX8_holds_69 (k_51 hK) rfl (fun I_14 => ?_)
          refine w_iincB (q := 73) (i := 2) (j := 2) (lv' := fun v2_15 => [(2, .int v2_15), (0, .ref 43), (1, .int v1_8), (3, .int v3_10), (4, .int v4_11)]) hc dX8_holds_70 rfl ci_1 (hN 2 rfl) (fun _ => rfl) rfl (fun v2_15 => ?_)
          refine w_iincB (q := 76) (i := 4) (j := 4) (lv' := fun v4_16 => [(4, .int v4_16), (2, .int v2_15), (0, .ref 43), (1, .int v1_8), (3, .int v3_10)]) hc dX8_holds_73 rfl ci_1 (hN 4 rfl) (fun _ => rfl) rfl (fun v4_16 => ?_)
          refine w_goto (tgt := 33) hc dX8_holds_76 rfl ?_
          refine w_sub [2, 3, 1, 4, 0] rfl ?_
          exact ih v2_15 v4_16 I_14
        · refine w_goto (tgt := 73) hc dX8_holds_59 rfl ?_
          refine w_iincB (q := 76) (i := 4) (j := 4) (lv' := fun v4_17 => [(4, .int v4_17), (0, .ref 43), (1, .int v1_8), (2, .int v2_9), (3, .int v3_10)]) hc dX8_holds_73 rfl ci_1 (hN 4 rfl) (fun _ => rfl) rfl (fun v4_17 => ?_)
          refine w_goto (tgt := 33) hc dX8_holds_76 rfl ?_
          refine w_sub [1, 2, 3, 4, 0] rfl ?_
          exact ih v2_9 v4_17 I_12
set_option maxRecDepth 100000 in
set_option maxHeartbeats 4000000 in
theorem wl_X8_holds_127 {G : GT (Int32 × Mm)} {rm : Nat} (v1_34 : Int32) (v3_35 : Int32) (L : ML) (hc : Cx G cX8_holds yX8_holds.cls (some .int) 6 141) (hq : RetQ G anIW meW) (hK : gK G = lK rm) (hR : gR G = lR rm) (hn : gnL G = 5) (k0 : MI → Option (Int32 × Mm)) (hk0 : ∀ (I_40 : MI), WW G 172 [(0, .ref 43), (1, .int v1_34), (3, .int v3_35)] [] I_40 L (k0 I_40)) : ∀ (n : Nat) (v4_36 : Int32) (I_37 : MI), WW G 127 [(0, .ref 43), (1, .int v1_34), (3, .int v3_35), (4, .int v4_36)] [] I_37 L (f_X8_holds_127 v1_34 v3_35 L k0 n v4_36 I_37) := by
  have hN : ∀ i, Nat.blt i 5 = true → i < gnL G := fun i h => hn ▸ Nat.blt_eq.mp h
  intro n
  induction n with
  | zero => intros; exact w_none _ _ _
  | succ n ih =>
    intros v4_36 I_37
    rw [f_X8_holds_127]
    refine w_iload (q := 129) (i := 4) (j := 3) hc dX8_holds_127 rfl rfl ?_
    refine w_bipush (q := 131) hc dX8_holds_129 cb_10 rfl ?_
    refine w_icmpge (q := 134) (tgt := 172) hc dX8_holds_131 rfl rfl ?_ ?_
    · refine w_sub [0, 1, 2] rfl ?_
      exact hk0 I_37
    · refine w_aload_n (q := 135) (i := 0) (j := 0) hc dX8_holds_134 rfl rfl rfl ?_
      refine gf_X8_22 (q := 138) hc dX8_holds_135 (k_43 hK) (r_43_8 hR) rfl ?_
      refine w_iload (q := 140) (i := 4) (j := 3) hc dX8_holds_138 rfl rfl ?_
      refine w_aload_n (q := 141) (i := 0) (j := 0) hc dX8_holds_140 rfl rfl rfl ?_
      refine gf_X8_19 (q := 144) hc dX8_holds_141 (k_43 hK) (r_43_7 hR) rfl ?_
      refine w_aload_n (q := 145) (i := 0) (j := 0) hc dX8_holds_144 rfl rfl rfl ?_
      refine gf_X8_7 (q := 148) hc dX8_holds_145 (k_43 hK) (r_43_4 hR) rfl ?_
      refine w_bipush (q := 150) hc dX8_holds_148 cb_11 rfl ?_
      refine w_bipush (q := 152) hc dX8_holds_150 cb_10 rfl ?_
      refine w_iload_n (q := 153) (i := 3) (j := 2) hc dX8_holds_152 rfl rfl rfl ?_
      refine w_imul (q := 154) hc dX8_holds_153  rfl ?_
      refine w_iadd (q := 155) hc dX8_holds_154  rfl ?_
      refine w_aload_n (q := 156) (i := 0) (j := 0) hc dX8_holds_155 rfl rfl rfl ?_
      refine gf_X8_16 (q := 159) hc dX8_holds_156 (k_43 hK) (r_43_6 hR) rfl ?_
      refine w_iload (q := 161) (i := 4) (j := 3) hc dX8_holds_159 rfl rfl ?_
      refine w_iald (q := 162) hc dX8_holds_161 (k_46 hK) rfl ?_
      refine w_iadd (q := 163) hc dX8_holds_162  rfl ?_
      refine w_iald (q := 164) hc dX8_holds_163 (k_44 hK) rfl ?_
      refine w_iald (q := 165) hc dX8_holds_164 (k_47 hK) rfl ?_
      refine w_iast (q := 166) hc dX8_holds_165 (k_48 hK) rfl (fun I_38 => ?_)
      refine w_iincB (q := 169) (i := 4) (j := 3) (lv' := fun v4_39 => [(4, .int v4_39), (0, .ref 43), (1, .int v1_34), (3, .int v3_35)]) hc dX8_holds_166 rfl ci_1 (hN 4 rfl) (fun _ => rfl) rfl (fun v4_39 => ?_)
      refine w_goto (tgt := 127) hc dX8_holds_169 rfl ?_
      refine w_sub [1, 2, 3, 0] rfl ?_
      exact ih v4_39 I_38
set_option maxRecDepth 100000 in
set_option maxHeartbeats 4000000 in
theorem wl_X8_holds_116 {G : GT (Int32 × Mm)} {rm : Nat} (v1_29 : Int32) (hc : Cx G cX8_holds yX8_holds.cls (some .int) 6 141) (hq : RetQ G anIW meW) (hK : gK G = lK rm) (hR : gR G = lR rm) (hn : gnL G = 5) (k0 : MI → ML → Option (Int32 × Mm)) (hk0 : ∀ (I_43 : MI) (L_44 : ML), WW G 187 [(0, .ref 43), (1, .int v1_29)] [] I_43 L_44 (k0 I_43 L_44)) : ∀ (n : Nat) (v3_30 : Int32) (I_31 : MI) (L_32 : ML), WW G 116 [(0, .ref 43), (1, .int v1_29), (3, .int v3_30)] [] I_31 L_32 (f_X8_holds_116 v1_29 k0 n v3_30 I_31 L_32) := by
  have hN : ∀ i, Nat.blt i 5 = true → i < gnL G := fun i h => hn ▸ Nat.blt_eq.mp h
  intro n
  induction n with
  | zero => intros; exact w_none _ _ _
  | succ n ih =>
    intros v3_30 I_31 L_32
    rw [f_X8_holds_116]
    refine w_iload_n (q := 117) (i := 3) (j := 2) hc dX8_holds_116 rfl rfl rfl ?_
    refine w_aload_n (q := 118) (i := 0) (j := 0) hc dX8_holds_117 rfl rfl rfl ?_
    refine w_callV_Ri (q := 121) (st := [.int v3_30]) (args := []) (p := 43) hc (m_X8_moves hK hR) dX8_holds_118 ml_X8_110 cf_X8_moves iv_X8_moves (k_43 hK) (C := RX8) (T := TX8) (N := 45) rfl rfl (Nat.lt_of_succ_le (Nat.le_of_ble_eq_true rfl)) rfl rfl (Nat.le_of_ble_eq_true rfl) ⟨Nat.le_of_ble_eq_true rfl, Nat.le_of_ble_eq_true rfl⟩ rfl (fun q_33 => ?_)
    refine w_icmpge (q := 124) (tgt := 187) hc dX8_holds_121 rfl rfl ?_ ?_
    · refine w_sub [0, 1] rfl ?_
      exact hk0 I_31 L_32
    · refine w_iconst (q := 125) hc dX8_holds_124 ci_0 rfl ?_
      refine w_istore (q := 127) (i := 4) (lv' := [(4, .int 0), (0, .ref 43), (1, .int v1_29), (3, .int v3_30)]) hc dX8_holds_125 (hN 4 rfl) rfl rfl ?_
      refine w_sub [1, 2, 3, 0] rfl ?_
      refine wl_X8_holds_127 v1_29 v3_30 L_32 hc hq hK hR hn _ ?_ FU 0 I_31
      intro I_40
      refine w_aload_n (q := 173) (i := 0) (j := 0) hc dX8_holds_172 rfl rfl rfl ?_
      refine w_iconst (q := 174) hc dX8_holds_173 ci_1 rfl ?_
      refine w_aload_n (q := 175) (i := 0) (j := 0) hc dX8_holds_174 rfl rfl rfl ?_
      refine gf_X8_22 (q := 178) hc dX8_holds_175 (k_43 hK) (r_43_8 hR) rfl ?_
      refine w_callV_Wv (q := 181) (st := []) (args := [.int 1, .ref 48]) (p := 43) hc (m_X8_adds hK hR (kB hK (k_48 hK))) dX8_holds_178 ml_X8_161 cf_X8_adds iv_X8_adds (k_43 hK) (C := RX8) (T := TX8) (N := 45) rfl rfl (Nat.lt_of_succ_le (Nat.le_of_ble_eq_true rfl)) rfl rfl (Nat.le_of_ble_eq_true rfl) ⟨Nat.le_of_ble_eq_true rfl, Nat.le_of_ble_eq_true rfl⟩ rfl (fun q_41 => ?_)
      refine w_iincB (q := 184) (i := 3) (j := 2) (lv' := fun v3_42 => [(3, .int v3_42), (0, .ref 43), (1, .int v1_29)]) hc dX8_holds_181 rfl ci_1 (hN 3 rfl) (fun _ => rfl) rfl (fun v3_42 => ?_)
      refine w_goto (tgt := 116) hc dX8_holds_184 rfl ?_
      refine w_sub [1, 2, 0] rfl ?_
      exact ih v3_42 q_41.1 q_41.2
set_option maxRecDepth 100000 in
set_option maxHeartbeats 4000000 in
theorem wl_X8_holds_26 {G : GT (Int32 × Mm)} {rm : Nat} (v1_4 : Int32) (L : ML) (hc : Cx G cX8_holds yX8_holds.cls (some .int) 6 141) (hq : RetQ G anIW meW) (hK : gK G = lK rm) (hR : gR G = lR rm) (hn : gnL G = 5) (k0 : MI → Option (Int32 × Mm)) (hk0 : ∀ (I_25 : MI), WW G 85 [(0, .ref 43), (1, .int v1_4)] [] I_25 L (k0 I_25)) : ∀ (n : Nat) (v2_5 : Int32) (v3_6 : Int32) (I_7 : MI), WW G 26 [(0, .ref 43), (1, .int v1_4), (2, .int v2_5), (3, .int v3_6)] [] I_7 L (f_X8_holds_26 v1_4 L k0 n v2_5 v3_6 I_7) := by
  have hN : ∀ i, Nat.blt i 5 = true → i < gnL G := fun i h => hn ▸ Nat.blt_eq.mp h
  intro n
  induction n with
  | zero => intros; exact w_none _ _ _
  | succ n ih =>
    intros v2_5 v3_6 I_7
    rw [f_X8_holds_26]
    refine w_iload_n (q := 27) (i := 3) (j := 3) hc dX8_holds_26 rfl rfl rfl ?_
    refine w_iflt (q := 30) (tgt := 85) hc dX8_holds_27 rfl rfl ?_ ?_
    · refine w_sub [0, 1] rfl ?_
      exact hk0 I_7
    · refine w_iconst (q := 31) hc dX8_holds_30 ci_0 rfl ?_
      refine w_istore (q := 33) (i := 4) (lv' := [(4, .int 0), (0, .ref 43), (1, .int v1_4), (2, .int v2_5), (3, .int v3_6)]) hc dX8_holds_31 (hN 4 rfl) rfl rfl ?_
      refine w_sub [1, 2, 3, 4, 0] rfl ?_
      refine wl_X8_holds_33 v1_4 v3_6 L hc hq hK hR hn _ ?_ FU v2_5 0 I_7
      intro v2_22 I_23
      refine w_iincB (q := 82) (i := 3) (j := 3) (lv' := fun v3_24 => [(3, .int v3_24), (0, .ref 43), (1, .int v1_4), (2, .int v2_22)]) hc dX8_holds_79 rfl ci_m1 (hN 3 rfl) (fun _ => rfl) rfl (fun v3_24 => ?_)
      refine w_goto (tgt := 26) hc dX8_holds_82 rfl ?_
      refine w_sub [1, 2, 3, 0] rfl ?_
      exact ih v2_22 v3_24 I_23
set_option maxRecDepth 100000 in
set_option maxHeartbeats 4000000 in
theorem m_X8_holds {l : Launch} {K : KT} {R : MR} {rm : Nat} {a1 : Int32} {I : MI} {L : ML} (hK0 : K = lK rm) (hR0 : R = lR rm) : MFg l yX8_holds cX8_holds 5 (some .int) 6 141 [.ref 43, .int a1] K R I L anIW meW (f_X8_holds a1 I L) := by
  refine mf_of (plainFor_of_name (by decide)) (Nat.le_of_ble_eq_true rfl) ?_
  intro G hc _ hK1 hR1 hn hq
  have hK := hK1.trans hK0
  have hR := hR1.trans hR0
  have hN : ∀ i, Nat.blt i 5 = true → i < gnL G := fun i h => hn ▸ Nat.blt_eq.mp h
  unfold f_X8_holds
  show WW G 0 [(0, .ref 43), (1, .int a1)] [] I L _
  refine w_aload_n (q := 1) (i := 0) (j := 0) hc dX8_holds_0 rfl rfl rfl ?_
  refine w_aload_n (q := 2) (i := 0) (j := 0) hc dX8_holds_1 rfl rfl rfl ?_
  refine w_iload_n (q := 3) (i := 1) (j := 1) hc dX8_holds_2 rfl rfl rfl ?_
  refine w_callV_Rz (q := 6) (st := [.ref 43]) (args := [.int a1]) (p := 43) hc (m_X8_isSet hK hR) dX8_holds_3 ml_X8_371 cf_X8_isSet iv_X8_isSet (k_43 hK) (C := RX8) (T := TX8) (N := 45) rfl rfl (Nat.lt_of_succ_le (Nat.le_of_ble_eq_true rfl)) rfl rfl (Nat.le_of_ble_eq_true rfl) ⟨Nat.le_of_ble_eq_true rfl, Nat.le_of_ble_eq_true rfl⟩ rfl (fun q_1 => ?_)
  refine w_join (fun j14_331 : Int32 → Option (Int32 × Mm) => ∀ (s0_2 : Int32), WW G 14 [(0, .ref 43), (1, .int a1)] [.int s0_2, .ref 43] I L (j14_331 s0_2)) ?_ ?_
  · intro s0_2
    refine w_callV_Wz (q := 17) (st := []) (args := [.int s0_2]) (p := 43) hc (m_X8_is hK hR) dX8_holds_14 ml_X8_194 cf_X8_is iv_X8_is (k_43 hK) (C := RX8) (T := TX8) (N := 45) rfl rfl (Nat.lt_of_succ_le (Nat.le_of_ble_eq_true rfl)) rfl rfl (Nat.le_of_ble_eq_true rfl) ⟨Nat.le_of_ble_eq_true rfl, Nat.le_of_ble_eq_true rfl⟩ rfl (fun q_3 => ?_)
    refine w_ifne (q := 20) (tgt := 22) hc dX8_holds_17 rfl rfl ?_ ?_
    · refine w_iconst (q := 21) hc dX8_holds_20 ci_m1 rfl ?_
      exact w_ireturn (v := (-1)) hc hq dX8_holds_21 rfl rfl rfl
    · refine w_iconst (q := 23) hc dX8_holds_22 ci_0 rfl ?_
      refine w_istore_n (q := 24) (i := 2) (lv' := [(2, .int 0), (0, .ref 43), (1, .int a1)]) hc dX8_holds_23 rfl (hN 2 rfl) rfl rfl ?_
      refine w_iconst (q := 25) hc dX8_holds_24 ci_1 rfl ?_
      refine w_istore_n (q := 26) (i := 3) (lv' := [(3, .int 1), (2, .int 0), (0, .ref 43), (1, .int a1)]) hc dX8_holds_25 rfl (hN 3 rfl) rfl rfl ?_
      refine w_sub [2, 3, 1, 0] rfl ?_
      refine wl_X8_holds_26 a1 q_3.2.2 hc hq hK hR hn _ ?_ FU 0 1 q_3.2.1
      intro I_25
      refine w_aload_n (q := 86) (i := 0) (j := 0) hc dX8_holds_85 rfl rfl rfl ?_
      refine gf_X8_31 (q := 89) hc dX8_holds_86 (k_43 hK) (r_43_11 hR) rfl ?_
      refine w_iconst (q := 90) hc dX8_holds_89 ci_0 rfl ?_
      refine w_aload_n (q := 91) (i := 0) (j := 0) hc dX8_holds_90 rfl rfl rfl ?_
      refine gf_X8_16 (q := 94) hc dX8_holds_91 (k_43 hK) (r_43_6 hR) rfl ?_
      refine w_iconst (q := 95) hc dX8_holds_94 ci_0 rfl ?_
      refine w_callS_Wv (q := 98) (st := []) (args := [.ref 51, .int 0, .ref 46, .int 0]) hc (m_X8_copies hK hR (kB hK (k_51 hK)) (kB hK (k_46 hK))) dX8_holds_95 ml_X8_100 cf_X8_copies st_X8_copies rfl rfl (Nat.le_of_ble_eq_true rfl) ⟨Nat.le_of_ble_eq_true rfl, Nat.le_of_ble_eq_true rfl⟩ rfl (fun q_26 => ?_)
      refine w_aload_n (q := 99) (i := 0) (j := 0) hc dX8_holds_98 rfl rfl rfl ?_
      refine gf_X8_16 (q := 102) hc dX8_holds_99 (k_43 hK) (r_43_6 hR) rfl ?_
      refine w_aload_n (q := 103) (i := 0) (j := 0) hc dX8_holds_102 rfl rfl rfl ?_
      refine gf_X8_19 (q := 106) hc dX8_holds_103 (k_43 hK) (r_43_7 hR) rfl ?_
      refine w_callS_Wv (q := 109) (st := []) (args := [.ref 46, .ref 47]) hc (m_X8_inverts hK hR (kB hK (k_46 hK)) (kB hK (k_47 hK))) dX8_holds_106 ml_X8_130 cf_X8_inverts st_X8_inverts rfl rfl (Nat.le_of_ble_eq_true rfl) ⟨Nat.le_of_ble_eq_true rfl, Nat.le_of_ble_eq_true rfl⟩ rfl (fun q_27 => ?_)
      refine w_aload_n (q := 110) (i := 0) (j := 0) hc dX8_holds_109 rfl rfl rfl ?_
      refine w_iconst (q := 111) hc dX8_holds_110 ci_1 rfl ?_
      refine w_callV_Wv (q := 114) (st := []) (args := [.int 1]) (p := 43) hc (m_X8_clears hK hR) dX8_holds_111 ml_X8_154 cf_X8_clears iv_X8_clears (k_43 hK) (C := RX8) (T := TX8) (N := 45) rfl rfl (Nat.lt_of_succ_le (Nat.le_of_ble_eq_true rfl)) rfl rfl (Nat.le_of_ble_eq_true rfl) ⟨Nat.le_of_ble_eq_true rfl, Nat.le_of_ble_eq_true rfl⟩ rfl (fun q_28 => ?_)
      refine w_iconst (q := 115) hc dX8_holds_114 ci_0 rfl ?_
      refine w_istore_n (q := 116) (i := 3) (lv' := [(3, .int 0), (0, .ref 43), (1, .int a1)]) hc dX8_holds_115 rfl (hN 3 rfl) rfl rfl ?_
      refine w_sub [1, 2, 0] rfl ?_
      refine wl_X8_holds_116 a1 hc hq hK hR hn _ ?_ FU 0 q_28.1 q_28.2
      intro I_43 L_44
      refine w_aload_n (q := 188) (i := 0) (j := 0) hc dX8_holds_187 rfl rfl rfl ?_
      refine w_iconst (q := 189) hc dX8_holds_188 ci_1 rfl ?_
      refine w_iload_n (q := 190) (i := 1) (j := 1) hc dX8_holds_189 rfl rfl rfl ?_
      refine w_callS_Ri (q := 193) (st := [.int 1, .ref 43]) (args := [.int a1]) hc (m_X8_bits hK hR) dX8_holds_190 ml_X8_368 cf_X8_bits st_X8_bits rfl rfl (Nat.le_of_ble_eq_true rfl) ⟨Nat.le_of_ble_eq_true rfl, Nat.le_of_ble_eq_true rfl⟩ rfl (fun q_45 => ?_)
      refine w_callV_Ri (q := 196) (st := []) (args := [.int 1, .int q_45]) (p := 43) hc (m_X8_orderFrom hK hR) dX8_holds_193 ml_X8_168 cf_X8_orderFrom iv_X8_orderFrom (k_43 hK) (C := RX8) (T := TX8) (N := 45) rfl rfl (Nat.lt_of_succ_le (Nat.le_of_ble_eq_true rfl)) rfl rfl (Nat.le_of_ble_eq_true rfl) ⟨Nat.le_of_ble_eq_true rfl, Nat.le_of_ble_eq_true rfl⟩ rfl (fun q_46 => ?_)
      exact w_ireturn (v := q_46) hc hq dX8_holds_196 rfl rfl rfl
  · intro j14_331 hj14_331
    refine w_ifeq (q := 9) (tgt := 13) hc dX8_holds_6 rfl rfl ?_ ?_
    · refine w_iconst (q := 14) hc dX8_holds_13 ci_2 rfl ?_
      exact hj14_331 2
    · refine w_iconst (q := 10) hc dX8_holds_9 ci_0 rfl ?_
      refine w_goto (tgt := 14) hc dX8_holds_10 rfl ?_
      exact hj14_331 0
set_option maxRecDepth 100000 in
set_option maxHeartbeats 4000000 in
theorem wl_X8_imageOf_4 {G : GT Int32} {rm : Nat} (a0 : Nat) (v1_1 : Int32) (I : MI) (L : ML) (hc : Cx G cX8_imageOf yX8_imageOf.cls (some .int) 1 21) (hq : RetQ G anI (meR I L)) (hK : gK G = lK rm) (hR : gR G = lR rm) (hn : gnL G = 4) (ha0 : (lK rm)[a0]? = some (10, 10)) : ∀ (n : Nat) (v2_2 : Int32) (v3_3 : Int32), WW G 4 [(0, .ref a0), (1, .int v1_1), (2, .int v2_2), (3, .int v3_3)] [] I L (f_X8_imageOf_4 a0 v1_1 I L n v2_2 v3_3) := by
  have hN : ∀ i, Nat.blt i 4 = true → i < gnL G := fun i h => hn ▸ Nat.blt_eq.mp h
  intro n
  induction n with
  | zero => intros; exact w_none _ _ _
  | succ n ih =>
    intros v2_2 v3_3
    rw [f_X8_imageOf_4]
    refine w_iload_n (q := 5) (i := 3) (j := 3) hc dX8_imageOf_4 rfl rfl rfl ?_
    refine w_bipush (q := 7) hc dX8_imageOf_5 cb_10 rfl ?_
    refine w_icmpge (q := 10) (tgt := 36) hc dX8_imageOf_7 rfl rfl ?_ ?_
    · refine w_iload_n (q := 37) (i := 2) (j := 2) hc dX8_imageOf_36 rfl rfl rfl ?_
      exact w_ireturn (v := v2_2) hc hq dX8_imageOf_37 rfl rfl rfl
    · refine w_iload_n (q := 11) (i := 2) (j := 2) hc dX8_imageOf_10 rfl rfl rfl ?_
      refine w_iload_n (q := 12) (i := 1) (j := 1) hc dX8_imageOf_11 rfl rfl rfl ?_
      refine w_iload_n (q := 13) (i := 3) (j := 3) hc dX8_imageOf_12 rfl rfl rfl ?_
      refine w_callS_Rz (q := 16) (st := [.int v2_2]) (args := [.int v1_1, .int v3_3]) hc (m_X8_bit hK hR) dX8_imageOf_13 ml_X8_157 cf_X8_bit st_X8_bit rfl rfl (Nat.le_of_ble_eq_true rfl) ⟨Nat.le_of_ble_eq_true rfl, Nat.le_of_ble_eq_true rfl⟩ rfl (fun q_4 => ?_)
      refine w_ifeq (q := 19) (tgt := 27) hc dX8_imageOf_16 rfl rfl ?_ ?_
      · refine w_iconst (q := 28) hc dX8_imageOf_27 ci_0 rfl ?_
        refine w_ior (q := 29) hc dX8_imageOf_28  rfl ?_
        refine w_istore_nB (q := 30) (i := 2) (lv' := fun v2_5 => [(2, .int v2_5), (0, .ref a0), (1, .int v1_1), (3, .int v3_3)]) hc dX8_imageOf_29 rfl (hN 2 rfl) (fun _ => rfl) rfl (fun v2_5 => ?_)
        refine w_iincB (q := 33) (i := 3) (j := 3) (lv' := fun v3_6 => [(3, .int v3_6), (2, .int v2_5), (0, .ref a0), (1, .int v1_1)]) hc dX8_imageOf_30 rfl ci_1 (hN 3 rfl) (fun _ => rfl) rfl (fun v3_6 => ?_)
        refine w_goto (tgt := 4) hc dX8_imageOf_33 rfl ?_
        refine w_sub [2, 3, 1, 0] rfl ?_
        exact ih v2_5 v3_6
      · refine w_iconst (q := 20) hc dX8_imageOf_19 ci_1 rfl ?_
        refine w_aload_n (q := 21) (i := 0) (j := 0) hc dX8_imageOf_20 rfl rfl rfl ?_
        refine w_iload_n (q := 22) (i := 3) (j := 3) hc dX8_imageOf_21 rfl rfl rfl ?_
        refine w_iald (q := 23) hc dX8_imageOf_22 (kA hK ha0) rfl ?_
        refine w_ishl (q := 24) hc dX8_imageOf_23  rfl ?_
        refine w_goto (tgt := 28) hc dX8_imageOf_24 rfl ?_
        refine w_ior (q := 29) hc dX8_imageOf_28  rfl ?_
        refine w_istore_nB (q := 30) (i := 2) (lv' := fun v2_7 => [(2, .int v2_7), (0, .ref a0), (1, .int v1_1), (3, .int v3_3)]) hc dX8_imageOf_29 rfl (hN 2 rfl) (fun _ => rfl) rfl (fun v2_7 => ?_)
        refine w_iincB (q := 33) (i := 3) (j := 3) (lv' := fun v3_8 => [(3, .int v3_8), (2, .int v2_7), (0, .ref a0), (1, .int v1_1)]) hc dX8_imageOf_30 rfl ci_1 (hN 3 rfl) (fun _ => rfl) rfl (fun v3_8 => ?_)
        refine w_goto (tgt := 4) hc dX8_imageOf_33 rfl ?_
        refine w_sub [2, 3, 1, 0] rfl ?_
        exact ih v2_7 v3_8
set_option maxRecDepth 100000 in
set_option maxHeartbeats 4000000 in
theorem m_X8_imageOf {l : Launch} {K : KT} {R : MR} {rm : Nat} {a0 : Nat} {a1 : Int32} {I : MI} {L : ML} (hK0 : K = lK rm) (hR0 : R = lR rm) (ha0 : (lK rm)[a0]? = some (10, 10)) : MFg l yX8_imageOf cX8_imageOf 4 (some .int) 1 21 [.ref a0, .int a1] K R I L anI (meR I L) (f_X8_imageOf a0 a1 I L) := by
  refine mf_of (plainFor_of_name (by decide)) (Nat.le_of_ble_eq_true rfl) ?_
  intro G hc _ hK1 hR1 hn hq
  have hK := hK1.trans hK0
  have hR := hR1.trans hR0
  have hN : ∀ i, Nat.blt i 4 = true → i < gnL G := fun i h => hn ▸ Nat.blt_eq.mp h
  unfold f_X8_imageOf
  show WW G 0 [(0, .ref a0), (1, .int a1)] [] I L _
  refine w_iconst (q := 1) hc dX8_imageOf_0 ci_0 rfl ?_
  refine w_istore_n (q := 2) (i := 2) (lv' := [(2, .int 0), (0, .ref a0), (1, .int a1)]) hc dX8_imageOf_1 rfl (hN 2 rfl) rfl rfl ?_
  refine w_iconst (q := 3) hc dX8_imageOf_2 ci_0 rfl ?_
  refine w_istore_n (q := 4) (i := 3) (lv' := [(3, .int 0), (2, .int 0), (0, .ref a0), (1, .int a1)]) hc dX8_imageOf_3 rfl (hN 3 rfl) rfl rfl ?_
  refine w_sub [2, 3, 1, 0] rfl ?_
  exact wl_X8_imageOf_4 a0 a1 I L hc hq hK hR hn ha0 FU 0 0
set_option maxRecDepth 100000 in
set_option maxHeartbeats 4000000 in
theorem wl_X8_keeps_34 {G : GT (Int32 × Mm)} {rm : Nat} (v1_6 : Int32) (hc : Cx G cX8_keeps yX8_keeps.cls (some .int) 11 245) (hq : RetQ G anIW meW) (hK : gK G = lK rm) (hR : gR G = lR rm) (hn : gnL G = 4) : ∀ (n : Nat) (v2_7 : Int32) (v3_8 : Int32) (I_9 : MI) (L_10 : ML), WW G 34 [(0, .ref 43), (1, .int v1_6), (2, .int v2_7), (3, .int v3_8)] [] I_9 L_10 (f_X8_keeps_34 v1_6 n v2_7 v3_8 I_9 L_10) := by
  have hN : ∀ i, Nat.blt i 4 = true → i < gnL G := fun i h => hn ▸ Nat.blt_eq.mp h
  intro n
  induction n with
  | zero => intros; exact w_none _ _ _
  | succ n ih =>
    intros v2_7 v3_8 I_9 L_10
    rw [f_X8_keeps_34]
    refine w_iload_n (q := 35) (i := 3) (j := 3) hc dX8_keeps_34 rfl rfl rfl ?_
    refine w_aload_n (q := 36) (i := 0) (j := 0) hc dX8_keeps_35 rfl rfl rfl ?_
    refine gf_X8_290 (q := 39) hc dX8_keeps_36 (k_43 hK) rfl ?_
    refine w_icmpge (q := 42) (tgt := 77) hc dX8_keeps_39 rfl rfl ?_ ?_
    · refine w_iload_n (q := 78) (i := 2) (j := 2) hc dX8_keeps_77 rfl rfl rfl ?_
      exact w_ireturn (v := v2_7) hc hq dX8_keeps_78 rfl rfl rfl
    · refine w_aload_n (q := 43) (i := 0) (j := 0) hc dX8_keeps_42 rfl rfl rfl ?_
      refine w_iload_n (q := 44) (i := 3) (j := 3) hc dX8_keeps_43 rfl rfl rfl ?_
      refine w_aload_n (q := 45) (i := 0) (j := 0) hc dX8_keeps_44 rfl rfl rfl ?_
      refine gf_X8_16 (q := 48) hc dX8_keeps_45 (k_43 hK) (r_43_6 hR) rfl ?_
      refine w_callV_Wv (q := 51) (st := []) (args := [.int v3_8, .ref 46]) (p := 43) hc (m_X8_laysOne hK hR (kB hK (k_46 hK))) dX8_keeps_48 ml_X8_296 cf_X8_laysOne iv_X8_laysOne (k_43 hK) (C := RX8) (T := TX8) (N := 45) rfl rfl (Nat.lt_of_succ_le (Nat.le_of_ble_eq_true rfl)) rfl rfl (Nat.le_of_ble_eq_true rfl) ⟨Nat.le_of_ble_eq_true rfl, Nat.le_of_ble_eq_true rfl⟩ rfl (fun q_11 => ?_)
      refine w_iload_n (q := 52) (i := 2) (j := 2) hc dX8_keeps_51 rfl rfl rfl ?_
      refine w_aload_n (q := 53) (i := 0) (j := 0) hc dX8_keeps_52 rfl rfl rfl ?_
      refine gf_X8_16 (q := 56) hc dX8_keeps_53 (k_43 hK) (r_43_6 hR) rfl ?_
      refine w_iload_n (q := 57) (i := 1) (j := 1) hc dX8_keeps_56 rfl rfl rfl ?_
      refine w_callS_Ri (q := 60) (st := [.int v2_7]) (args := [.ref 46, .int v1_6]) hc (m_X8_imageOf hK hR (kB hK (k_46 hK))) dX8_keeps_57 ml_X8_374 cf_X8_imageOf st_X8_imageOf rfl rfl (Nat.le_of_ble_eq_true rfl) ⟨Nat.le_of_ble_eq_true rfl, Nat.le_of_ble_eq_true rfl⟩ rfl (fun q_12 => ?_)
      refine w_iload_n (q := 61) (i := 1) (j := 1) hc dX8_keeps_60 rfl rfl rfl ?_
      refine w_icmpne (q := 64) (tgt := 68) hc dX8_keeps_61 rfl rfl ?_ ?_
      · refine w_iconst (q := 65) hc dX8_keeps_64 ci_1 rfl ?_
        refine w_goto (tgt := 69) hc dX8_keeps_65 rfl ?_
        refine w_iadd (q := 70) hc dX8_keeps_69  rfl ?_
        refine w_istore_nB (q := 71) (i := 2) (lv' := fun v2_15 => [(2, .int v2_15), (0, .ref 43), (1, .int v1_6), (3, .int v3_8)]) hc dX8_keeps_70 rfl (hN 2 rfl) (fun _ => rfl) rfl (fun v2_15 => ?_)
        refine w_iincB (q := 74) (i := 3) (j := 3) (lv' := fun v3_16 => [(3, .int v3_16), (2, .int v2_15), (0, .ref 43), (1, .int v1_6)]) hc dX8_keeps_71 rfl ci_1 (hN 3 rfl) (fun _ => rfl) rfl (fun v3_16 => ?_)
        refine w_goto (tgt := 34) hc dX8_keeps_74 rfl ?_
        refine w_sub [2, 3, 1, 0] rfl ?_
        exact ih v2_15 v3_16 q_11.1 q_11.2
      · refine w_iconst (q := 69) hc dX8_keeps_68 ci_0 rfl ?_
        refine w_iadd (q := 70) hc dX8_keeps_69  rfl ?_
        refine w_istore_nB (q := 71) (i := 2) (lv' := fun v2_13 => [(2, .int v2_13), (0, .ref 43), (1, .int v1_6), (3, .int v3_8)]) hc dX8_keeps_70 rfl (hN 2 rfl) (fun _ => rfl) rfl (fun v2_13 => ?_)
        refine w_iincB (q := 74) (i := 3) (j := 3) (lv' := fun v3_14 => [(3, .int v3_14), (2, .int v2_13), (0, .ref 43), (1, .int v1_6)]) hc dX8_keeps_71 rfl ci_1 (hN 3 rfl) (fun _ => rfl) rfl (fun v3_14 => ?_)
        refine w_goto (tgt := 34) hc dX8_keeps_74 rfl ?_
        refine w_sub [2, 3, 1, 0] rfl ?_
        exact ih v2_13 v3_14 q_11.1 q_11.2
set_option maxRecDepth 100000 in
set_option maxHeartbeats 4000000 in
theorem m_X8_keeps {l : Launch} {K : KT} {R : MR} {rm : Nat} {a1 : Int32} {I : MI} {L : ML} (hK0 : K = lK rm) (hR0 : R = lR rm) : MFg l yX8_keeps cX8_keeps 4 (some .int) 11 245 [.ref 43, .int a1] K R I L anIW meW (f_X8_keeps a1 I L) := by
  refine mf_of (plainFor_of_name (by decide)) (Nat.le_of_ble_eq_true rfl) ?_
  intro G hc _ hK1 hR1 hn hq
  have hK := hK1.trans hK0
  have hR := hR1.trans hR0
  have hN : ∀ i, Nat.blt i 4 = true → i < gnL G := fun i h => hn ▸ Nat.blt_eq.mp h
  unfold f_X8_keeps
  show WW G 0 [(0, .ref 43), (1, .int a1)] [] I L _
  refine w_aload_n (q := 1) (i := 0) (j := 0) hc dX8_keeps_0 rfl rfl rfl ?_
  refine w_aload_n (q := 2) (i := 0) (j := 0) hc dX8_keeps_1 rfl rfl rfl ?_
  refine w_aload_n (q := 3) (i := 0) (j := 0) hc dX8_keeps_2 rfl rfl rfl ?_
  refine w_iload_n (q := 4) (i := 1) (j := 1) hc dX8_keeps_3 rfl rfl rfl ?_
  refine w_callV_Rz (q := 7) (st := [.ref 43, .ref 43]) (args := [.int a1]) (p := 43) hc (m_X8_isSet hK hR) dX8_keeps_4 ml_X8_371 cf_X8_isSet iv_X8_isSet (k_43 hK) (C := RX8) (T := TX8) (N := 45) rfl rfl (Nat.lt_of_succ_le (Nat.le_of_ble_eq_true rfl)) rfl rfl (Nat.le_of_ble_eq_true rfl) ⟨Nat.le_of_ble_eq_true rfl, Nat.le_of_ble_eq_true rfl⟩ rfl (fun q_1 => ?_)
  refine w_join (fun j15_341 : Int32 → Option (Int32 × Mm) => ∀ (s0_2 : Int32), WW G 15 [(0, .ref 43), (1, .int a1)] [.int s0_2, .ref 43, .ref 43] I L (j15_341 s0_2)) ?_ ?_
  · intro s0_2
    refine w_callV_Wi (q := 18) (st := [.ref 43]) (args := [.int s0_2]) (p := 43) hc (m_X8_whySmall hK hR) dX8_keeps_15 ml_X8_299 cf_X8_whySmall iv_X8_whySmall (k_43 hK) (C := RX8) (T := TX8) (N := 45) rfl rfl (Nat.lt_of_succ_le (Nat.le_of_ble_eq_true rfl)) rfl rfl (Nat.le_of_ble_eq_true rfl) ⟨Nat.le_of_ble_eq_true rfl, Nat.le_of_ble_eq_true rfl⟩ rfl (fun q_3 => ?_)
    refine w_callV_Wz (q := 21) (st := []) (args := [.int q_3.1]) (p := 43) hc (m_X8_is hK hR) dX8_keeps_18 ml_X8_194 cf_X8_is iv_X8_is (k_43 hK) (C := RX8) (T := TX8) (N := 45) rfl rfl (Nat.lt_of_succ_le (Nat.le_of_ble_eq_true rfl)) rfl rfl (Nat.le_of_ble_eq_true rfl) ⟨Nat.le_of_ble_eq_true rfl, Nat.le_of_ble_eq_true rfl⟩ rfl (fun q_4 => ?_)
    refine w_ifne (q := 24) (tgt := 26) hc dX8_keeps_21 rfl rfl ?_ ?_
    · refine w_iconst (q := 25) hc dX8_keeps_24 ci_m1 rfl ?_
      exact w_ireturn (v := (-1)) hc hq dX8_keeps_25 rfl rfl rfl
    · refine w_aload_n (q := 27) (i := 0) (j := 0) hc dX8_keeps_26 rfl rfl rfl ?_
      refine w_callV_Wv (q := 30) (st := []) (args := []) (p := 43) hc (m_X8_laysAll hK hR) dX8_keeps_27 ml_X8_293 cf_X8_laysAll iv_X8_laysAll (k_43 hK) (C := RX8) (T := TX8) (N := 45) rfl rfl (Nat.lt_of_succ_le (Nat.le_of_ble_eq_true rfl)) rfl rfl (Nat.le_of_ble_eq_true rfl) ⟨Nat.le_of_ble_eq_true rfl, Nat.le_of_ble_eq_true rfl⟩ rfl (fun q_5 => ?_)
      refine w_iconst (q := 31) hc dX8_keeps_30 ci_0 rfl ?_
      refine w_istore_n (q := 32) (i := 2) (lv' := [(2, .int 0), (0, .ref 43), (1, .int a1)]) hc dX8_keeps_31 rfl (hN 2 rfl) rfl rfl ?_
      refine w_iconst (q := 33) hc dX8_keeps_32 ci_0 rfl ?_
      refine w_istore_n (q := 34) (i := 3) (lv' := [(3, .int 0), (2, .int 0), (0, .ref 43), (1, .int a1)]) hc dX8_keeps_33 rfl (hN 3 rfl) rfl rfl ?_
      refine w_sub [2, 3, 1, 0] rfl ?_
      exact wl_X8_keeps_34 a1 hc hq hK hR hn FU 0 0 q_5.1 q_5.2
  · intro j15_341 hj15_341
    refine w_ifeq (q := 10) (tgt := 14) hc dX8_keeps_7 rfl rfl ?_ ?_
    · refine w_iconst (q := 15) hc dX8_keeps_14 ci_2 rfl ?_
      exact hj15_341 2
    · refine w_iconst (q := 11) hc dX8_keeps_10 ci_0 rfl ?_
      refine w_goto (tgt := 15) hc dX8_keeps_11 rfl ?_
      exact hj15_341 0
set_option maxRecDepth 100000 in
set_option maxHeartbeats 4000000 in
theorem wl_X8_brings_40 {G : GT (Int32 × Mm)} {rm : Nat} (v1_7 : Int32) (v2_8 : Int32) (hc : Cx G cX8_brings yX8_brings.cls (some .int) 11 245) (hq : RetQ G anIW meW) (hK : gK G = lK rm) (hR : gR G = lR rm) (hn : gnL G = 4) (k0 : MI → ML → Option (Int32 × Mm)) (hk0 : ∀ (I_15 : MI) (L_16 : ML), WW G 77 [(0, .ref 43)] [] I_15 L_16 (k0 I_15 L_16)) : ∀ (n : Nat) (v3_9 : Int32) (I_10 : MI) (L_11 : ML), WW G 40 [(0, .ref 43), (1, .int v1_7), (2, .int v2_8), (3, .int v3_9)] [] I_10 L_11 (f_X8_brings_40 v1_7 v2_8 k0 n v3_9 I_10 L_11) := by
  have hN : ∀ i, Nat.blt i 4 = true → i < gnL G := fun i h => hn ▸ Nat.blt_eq.mp h
  intro n
  induction n with
  | zero => intros; exact w_none _ _ _
  | succ n ih =>
    intros v3_9 I_10 L_11
    rw [f_X8_brings_40]
    refine w_iload_n (q := 41) (i := 3) (j := 3) hc dX8_brings_40 rfl rfl rfl ?_
    refine w_aload_n (q := 42) (i := 0) (j := 0) hc dX8_brings_41 rfl rfl rfl ?_
    refine gf_X8_290 (q := 45) hc dX8_brings_42 (k_43 hK) rfl ?_
    refine w_icmpge (q := 48) (tgt := 77) hc dX8_brings_45 rfl rfl ?_ ?_
    · refine w_sub [0] rfl ?_
      exact hk0 I_10 L_11
    · refine w_aload_n (q := 49) (i := 0) (j := 0) hc dX8_brings_48 rfl rfl rfl ?_
      refine w_iload_n (q := 50) (i := 3) (j := 3) hc dX8_brings_49 rfl rfl rfl ?_
      refine w_aload_n (q := 51) (i := 0) (j := 0) hc dX8_brings_50 rfl rfl rfl ?_
      refine gf_X8_16 (q := 54) hc dX8_brings_51 (k_43 hK) (r_43_6 hR) rfl ?_
      refine w_callV_Wv (q := 57) (st := []) (args := [.int v3_9, .ref 46]) (p := 43) hc (m_X8_laysOne hK hR (kB hK (k_46 hK))) dX8_brings_54 ml_X8_296 cf_X8_laysOne iv_X8_laysOne (k_43 hK) (C := RX8) (T := TX8) (N := 45) rfl rfl (Nat.lt_of_succ_le (Nat.le_of_ble_eq_true rfl)) rfl rfl (Nat.le_of_ble_eq_true rfl) ⟨Nat.le_of_ble_eq_true rfl, Nat.le_of_ble_eq_true rfl⟩ rfl (fun q_12 => ?_)
      refine w_aload_n (q := 58) (i := 0) (j := 0) hc dX8_brings_57 rfl rfl rfl ?_
      refine gf_X8_16 (q := 61) hc dX8_brings_58 (k_43 hK) (r_43_6 hR) rfl ?_
      refine w_iload_n (q := 62) (i := 1) (j := 1) hc dX8_brings_61 rfl rfl rfl ?_
      refine w_callS_Ri (q := 65) (st := []) (args := [.ref 46, .int v1_7]) hc (m_X8_imageOf hK hR (kB hK (k_46 hK))) dX8_brings_62 ml_X8_374 cf_X8_imageOf st_X8_imageOf rfl rfl (Nat.le_of_ble_eq_true rfl) ⟨Nat.le_of_ble_eq_true rfl, Nat.le_of_ble_eq_true rfl⟩ rfl (fun q_13 => ?_)
      refine w_iload_n (q := 66) (i := 2) (j := 2) hc dX8_brings_65 rfl rfl rfl ?_
      refine w_icmpne (q := 69) (tgt := 71) hc dX8_brings_66 rfl rfl ?_ ?_
      · refine w_iload_n (q := 70) (i := 3) (j := 3) hc dX8_brings_69 rfl rfl rfl ?_
        exact w_ireturn (v := v3_9) hc hq dX8_brings_70 rfl rfl rfl
      · refine w_iincB (q := 74) (i := 3) (j := 3) (lv' := fun v3_14 => [(3, .int v3_14), (0, .ref 43), (1, .int v1_7), (2, .int v2_8)]) hc dX8_brings_71 rfl ci_1 (hN 3 rfl) (fun _ => rfl) rfl (fun v3_14 => ?_)
        refine w_goto (tgt := 40) hc dX8_brings_74 rfl ?_
        refine w_sub [1, 2, 3, 0] rfl ?_
        exact ih v3_14 q_12.1 q_12.2
set_option maxRecDepth 100000 in
set_option maxHeartbeats 4000000 in
theorem m_X8_brings {l : Launch} {K : KT} {R : MR} {rm : Nat} {a1 : Int32} {a2 : Int32} {I : MI} {L : ML} (hK0 : K = lK rm) (hR0 : R = lR rm) : MFg l yX8_brings cX8_brings 4 (some .int) 11 245 [.ref 43, .int a1, .int a2] K R I L anIW meW (f_X8_brings a1 a2 I L) := by
  refine mf_of (plainFor_of_name (by decide)) (Nat.le_of_ble_eq_true rfl) ?_
  intro G hc _ hK1 hR1 hn hq
  have hK := hK1.trans hK0
  have hR := hR1.trans hR0
  have hN : ∀ i, Nat.blt i 4 = true → i < gnL G := fun i h => hn ▸ Nat.blt_eq.mp h
  unfold f_X8_brings
  show WW G 0 [(0, .ref 43), (1, .int a1), (2, .int a2)] [] I L _
  refine w_aload_n (q := 1) (i := 0) (j := 0) hc dX8_brings_0 rfl rfl rfl ?_
  refine w_aload_n (q := 2) (i := 0) (j := 0) hc dX8_brings_1 rfl rfl rfl ?_
  refine w_aload_n (q := 3) (i := 0) (j := 0) hc dX8_brings_2 rfl rfl rfl ?_
  refine w_iload_n (q := 4) (i := 1) (j := 1) hc dX8_brings_3 rfl rfl rfl ?_
  refine w_callV_Rz (q := 7) (st := [.ref 43, .ref 43]) (args := [.int a1]) (p := 43) hc (m_X8_isSet hK hR) dX8_brings_4 ml_X8_371 cf_X8_isSet iv_X8_isSet (k_43 hK) (C := RX8) (T := TX8) (N := 45) rfl rfl (Nat.lt_of_succ_le (Nat.le_of_ble_eq_true rfl)) rfl rfl (Nat.le_of_ble_eq_true rfl) ⟨Nat.le_of_ble_eq_true rfl, Nat.le_of_ble_eq_true rfl⟩ rfl (fun q_1 => ?_)
  refine w_join (fun j23_343 : Int32 → Option (Int32 × Mm) => ∀ (s0_3 : Int32), WW G 23 [(0, .ref 43), (1, .int a1), (2, .int a2)] [.int s0_3, .ref 43, .ref 43] I L (j23_343 s0_3)) ?_ ?_
  · intro s0_3
    refine w_callV_Wi (q := 26) (st := [.ref 43]) (args := [.int s0_3]) (p := 43) hc (m_X8_whySmall hK hR) dX8_brings_23 ml_X8_299 cf_X8_whySmall iv_X8_whySmall (k_43 hK) (C := RX8) (T := TX8) (N := 45) rfl rfl (Nat.lt_of_succ_le (Nat.le_of_ble_eq_true rfl)) rfl rfl (Nat.le_of_ble_eq_true rfl) ⟨Nat.le_of_ble_eq_true rfl, Nat.le_of_ble_eq_true rfl⟩ rfl (fun q_4 => ?_)
    refine w_callV_Wz (q := 29) (st := []) (args := [.int q_4.1]) (p := 43) hc (m_X8_is hK hR) dX8_brings_26 ml_X8_194 cf_X8_is iv_X8_is (k_43 hK) (C := RX8) (T := TX8) (N := 45) rfl rfl (Nat.lt_of_succ_le (Nat.le_of_ble_eq_true rfl)) rfl rfl (Nat.le_of_ble_eq_true rfl) ⟨Nat.le_of_ble_eq_true rfl, Nat.le_of_ble_eq_true rfl⟩ rfl (fun q_5 => ?_)
    refine w_ifne (q := 32) (tgt := 34) hc dX8_brings_29 rfl rfl ?_ ?_
    · refine w_iconst (q := 33) hc dX8_brings_32 ci_m1 rfl ?_
      exact w_ireturn (v := (-1)) hc hq dX8_brings_33 rfl rfl rfl
    · refine w_aload_n (q := 35) (i := 0) (j := 0) hc dX8_brings_34 rfl rfl rfl ?_
      refine w_callV_Wv (q := 38) (st := []) (args := []) (p := 43) hc (m_X8_laysAll hK hR) dX8_brings_35 ml_X8_293 cf_X8_laysAll iv_X8_laysAll (k_43 hK) (C := RX8) (T := TX8) (N := 45) rfl rfl (Nat.lt_of_succ_le (Nat.le_of_ble_eq_true rfl)) rfl rfl (Nat.le_of_ble_eq_true rfl) ⟨Nat.le_of_ble_eq_true rfl, Nat.le_of_ble_eq_true rfl⟩ rfl (fun q_6 => ?_)
      refine w_iconst (q := 39) hc dX8_brings_38 ci_0 rfl ?_
      refine w_istore_n (q := 40) (i := 3) (lv' := [(3, .int 0), (0, .ref 43), (1, .int a1), (2, .int a2)]) hc dX8_brings_39 rfl (hN 3 rfl) rfl rfl ?_
      refine w_sub [1, 2, 3, 0] rfl ?_
      refine wl_X8_brings_40 a1 a2 hc hq hK hR hn _ ?_ FU 0 q_6.1 q_6.2
      intro I_15 L_16
      refine w_aload_n (q := 78) (i := 0) (j := 0) hc dX8_brings_77 rfl rfl rfl ?_
      refine w_iconst (q := 79) hc dX8_brings_78 ci_5 rfl ?_
      refine w_callV_Wi (q := 82) (st := []) (args := [.int 5]) (p := 43) hc (m_X8_refuse hK hR) dX8_brings_79 ml_X8_266 cf_X8_refuse iv_X8_refuse (k_43 hK) (C := RX8) (T := TX8) (N := 45) rfl rfl (Nat.lt_of_succ_le (Nat.le_of_ble_eq_true rfl)) rfl rfl (Nat.le_of_ble_eq_true rfl) ⟨Nat.le_of_ble_eq_true rfl, Nat.le_of_ble_eq_true rfl⟩ rfl (fun q_17 => ?_)
      exact w_ireturn (v := q_17.1) hc hq dX8_brings_82 rfl rfl rfl
  · intro j23_343 hj23_343
    refine w_join (fun j22_344 : Option (Int32 × Mm) => WW G 22 [(0, .ref 43), (1, .int a1), (2, .int a2)] [.ref 43, .ref 43] I L (j22_344)) ?_ ?_
    · refine w_iconst (q := 23) hc dX8_brings_22 ci_2 rfl ?_
      exact hj23_343 2
    · intro j22_344 hj22_344
      refine w_ifeq (q := 10) (tgt := 22) hc dX8_brings_7 rfl rfl ?_ ?_
      · exact hj22_344
      · refine w_aload_n (q := 11) (i := 0) (j := 0) hc dX8_brings_10 rfl rfl rfl ?_
        refine w_iload_n (q := 12) (i := 2) (j := 2) hc dX8_brings_11 rfl rfl rfl ?_
        refine w_callV_Rz (q := 15) (st := [.ref 43, .ref 43]) (args := [.int a2]) (p := 43) hc (m_X8_isSet hK hR) dX8_brings_12 ml_X8_371 cf_X8_isSet iv_X8_isSet (k_43 hK) (C := RX8) (T := TX8) (N := 45) rfl rfl (Nat.lt_of_succ_le (Nat.le_of_ble_eq_true rfl)) rfl rfl (Nat.le_of_ble_eq_true rfl) ⟨Nat.le_of_ble_eq_true rfl, Nat.le_of_ble_eq_true rfl⟩ rfl (fun q_2 => ?_)
        refine w_ifeq (q := 18) (tgt := 22) hc dX8_brings_15 rfl rfl ?_ ?_
        · exact hj22_344
        · refine w_iconst (q := 19) hc dX8_brings_18 ci_0 rfl ?_
          refine w_goto (tgt := 23) hc dX8_brings_19 rfl ?_
          exact hj23_343 0
set_option maxRecDepth 100000 in
set_option maxHeartbeats 4000000 in
theorem m_X8_block {l : Launch} {K : KT} {R : MR} {rm : Nat} {a1 : Int32} {a2 : Int32} {I : MI} {L : ML} (hK0 : K = lK rm) (hR0 : R = lR rm) : MFg l yX8_block cX8_block 3 (some .int) 2 51 [.ref 43, .int a1, .int a2] K R I L anIW meW (f_X8_block a1 a2 I L) := by
  refine mf_of (plainFor_of_name (by decide)) (Nat.le_of_ble_eq_true rfl) ?_
  intro G hc _ hK1 hR1 hn hq
  have hK := hK1.trans hK0
  have hR := hR1.trans hR0
  have hN : ∀ i, Nat.blt i 3 = true → i < gnL G := fun i h => hn ▸ Nat.blt_eq.mp h
  unfold f_X8_block
  show WW G 0 [(0, .ref 43), (1, .int a1), (2, .int a2)] [] I L _
  refine w_aload_n (q := 1) (i := 0) (j := 0) hc dX8_block_0 rfl rfl rfl ?_
  refine w_aload_n (q := 2) (i := 0) (j := 0) hc dX8_block_1 rfl rfl rfl ?_
  refine w_iload_n (q := 3) (i := 1) (j := 1) hc dX8_block_2 rfl rfl rfl ?_
  refine w_callV_Rz (q := 6) (st := [.ref 43]) (args := [.int a1]) (p := 43) hc (m_X8_isPoint hK hR) dX8_block_3 ml_X8_221 cf_X8_isPoint iv_X8_isPoint (k_43 hK) (C := RX8) (T := TX8) (N := 45) rfl rfl (Nat.lt_of_succ_le (Nat.le_of_ble_eq_true rfl)) rfl rfl (Nat.le_of_ble_eq_true rfl) ⟨Nat.le_of_ble_eq_true rfl, Nat.le_of_ble_eq_true rfl⟩ rfl (fun q_1 => ?_)
  refine w_join (fun j17_347 : Option (Int32 × Mm) => WW G 17 [(0, .ref 43), (1, .int a1), (2, .int a2)] [.ref 43] I L (j17_347)) ?_ ?_
  · refine w_iconst (q := 18) hc dX8_block_17 ci_2 rfl ?_
    refine w_goto (tgt := 31) hc dX8_block_18 rfl ?_
    refine w_callV_Wz (q := 34) (st := []) (args := [.int 2]) (p := 43) hc (m_X8_is hK hR) dX8_block_31 ml_X8_194 cf_X8_is iv_X8_is (k_43 hK) (C := RX8) (T := TX8) (N := 45) rfl rfl (Nat.lt_of_succ_le (Nat.le_of_ble_eq_true rfl)) rfl rfl (Nat.le_of_ble_eq_true rfl) ⟨Nat.le_of_ble_eq_true rfl, Nat.le_of_ble_eq_true rfl⟩ rfl (fun q_7 => ?_)
    refine w_ifeq (q := 37) (tgt := 46) hc dX8_block_34 rfl rfl ?_ ?_
    · refine w_iconst (q := 47) hc dX8_block_46 ci_m1 rfl ?_
      exact w_ireturn (v := (-1)) hc hq dX8_block_47 rfl rfl rfl
    · refine w_aload_n (q := 38) (i := 0) (j := 0) hc dX8_block_37 rfl rfl rfl ?_
      refine w_iload_n (q := 39) (i := 1) (j := 1) hc dX8_block_38 rfl rfl rfl ?_
      refine w_iload_n (q := 40) (i := 2) (j := 2) hc dX8_block_39 rfl rfl rfl ?_
      refine w_callV_Wi (q := 43) (st := []) (args := [.int a1, .int a2]) (p := 43) hc (m_X8_blockOf hK hR) dX8_block_40 ml_X8_347 cf_X8_blockOf iv_X8_blockOf (k_43 hK) (C := RX8) (T := TX8) (N := 45) rfl rfl (Nat.lt_of_succ_le (Nat.le_of_ble_eq_true rfl)) rfl rfl (Nat.le_of_ble_eq_true rfl) ⟨Nat.le_of_ble_eq_true rfl, Nat.le_of_ble_eq_true rfl⟩ rfl (fun q_8 => ?_)
      refine w_goto (tgt := 47) hc dX8_block_43 rfl ?_
      exact w_ireturn (v := q_8.1) hc hq dX8_block_47 rfl rfl rfl
  · intro j17_347 hj17_347
    refine w_ifeq (q := 9) (tgt := 17) hc dX8_block_6 rfl rfl ?_ ?_
    · exact hj17_347
    · refine w_aload_n (q := 10) (i := 0) (j := 0) hc dX8_block_9 rfl rfl rfl ?_
      refine w_iload_n (q := 11) (i := 2) (j := 2) hc dX8_block_10 rfl rfl rfl ?_
      refine w_callV_Rz (q := 14) (st := [.ref 43]) (args := [.int a2]) (p := 43) hc (m_X8_isPoint hK hR) dX8_block_11 ml_X8_221 cf_X8_isPoint iv_X8_isPoint (k_43 hK) (C := RX8) (T := TX8) (N := 45) rfl rfl (Nat.lt_of_succ_le (Nat.le_of_ble_eq_true rfl)) rfl rfl (Nat.le_of_ble_eq_true rfl) ⟨Nat.le_of_ble_eq_true rfl, Nat.le_of_ble_eq_true rfl⟩ rfl (fun q_2 => ?_)
      refine w_ifne (q := 17) (tgt := 21) hc dX8_block_14 rfl rfl ?_ ?_
      · exact hj17_347
      · refine w_iload_n (q := 22) (i := 1) (j := 1) hc dX8_block_21 rfl rfl rfl ?_
        refine w_iload_n (q := 23) (i := 2) (j := 2) hc dX8_block_22 rfl rfl rfl ?_
        refine w_icmpne (q := 26) (tgt := 30) hc dX8_block_23 rfl rfl ?_ ?_
        · refine w_iconst (q := 27) hc dX8_block_26 ci_4 rfl ?_
          refine w_goto (tgt := 31) hc dX8_block_27 rfl ?_
          refine w_callV_Wz (q := 34) (st := []) (args := [.int 4]) (p := 43) hc (m_X8_is hK hR) dX8_block_31 ml_X8_194 cf_X8_is iv_X8_is (k_43 hK) (C := RX8) (T := TX8) (N := 45) rfl rfl (Nat.lt_of_succ_le (Nat.le_of_ble_eq_true rfl)) rfl rfl (Nat.le_of_ble_eq_true rfl) ⟨Nat.le_of_ble_eq_true rfl, Nat.le_of_ble_eq_true rfl⟩ rfl (fun q_5 => ?_)
          refine w_ifeq (q := 37) (tgt := 46) hc dX8_block_34 rfl rfl ?_ ?_
          · refine w_iconst (q := 47) hc dX8_block_46 ci_m1 rfl ?_
            exact w_ireturn (v := (-1)) hc hq dX8_block_47 rfl rfl rfl
          · refine w_aload_n (q := 38) (i := 0) (j := 0) hc dX8_block_37 rfl rfl rfl ?_
            refine w_iload_n (q := 39) (i := 1) (j := 1) hc dX8_block_38 rfl rfl rfl ?_
            refine w_iload_n (q := 40) (i := 2) (j := 2) hc dX8_block_39 rfl rfl rfl ?_
            refine w_callV_Wi (q := 43) (st := []) (args := [.int a1, .int a2]) (p := 43) hc (m_X8_blockOf hK hR) dX8_block_40 ml_X8_347 cf_X8_blockOf iv_X8_blockOf (k_43 hK) (C := RX8) (T := TX8) (N := 45) rfl rfl (Nat.lt_of_succ_le (Nat.le_of_ble_eq_true rfl)) rfl rfl (Nat.le_of_ble_eq_true rfl) ⟨Nat.le_of_ble_eq_true rfl, Nat.le_of_ble_eq_true rfl⟩ rfl (fun q_6 => ?_)
            refine w_goto (tgt := 47) hc dX8_block_43 rfl ?_
            exact w_ireturn (v := q_6.1) hc hq dX8_block_47 rfl rfl rfl
        · refine w_iconst (q := 31) hc dX8_block_30 ci_0 rfl ?_
          refine w_callV_Wz (q := 34) (st := []) (args := [.int 0]) (p := 43) hc (m_X8_is hK hR) dX8_block_31 ml_X8_194 cf_X8_is iv_X8_is (k_43 hK) (C := RX8) (T := TX8) (N := 45) rfl rfl (Nat.lt_of_succ_le (Nat.le_of_ble_eq_true rfl)) rfl rfl (Nat.le_of_ble_eq_true rfl) ⟨Nat.le_of_ble_eq_true rfl, Nat.le_of_ble_eq_true rfl⟩ rfl (fun q_3 => ?_)
          refine w_ifeq (q := 37) (tgt := 46) hc dX8_block_34 rfl rfl ?_ ?_
          · refine w_iconst (q := 47) hc dX8_block_46 ci_m1 rfl ?_
            exact w_ireturn (v := (-1)) hc hq dX8_block_47 rfl rfl rfl
          · refine w_aload_n (q := 38) (i := 0) (j := 0) hc dX8_block_37 rfl rfl rfl ?_
            refine w_iload_n (q := 39) (i := 1) (j := 1) hc dX8_block_38 rfl rfl rfl ?_
            refine w_iload_n (q := 40) (i := 2) (j := 2) hc dX8_block_39 rfl rfl rfl ?_
            refine w_callV_Wi (q := 43) (st := []) (args := [.int a1, .int a2]) (p := 43) hc (m_X8_blockOf hK hR) dX8_block_40 ml_X8_347 cf_X8_blockOf iv_X8_blockOf (k_43 hK) (C := RX8) (T := TX8) (N := 45) rfl rfl (Nat.lt_of_succ_le (Nat.le_of_ble_eq_true rfl)) rfl rfl (Nat.le_of_ble_eq_true rfl) ⟨Nat.le_of_ble_eq_true rfl, Nat.le_of_ble_eq_true rfl⟩ rfl (fun q_4 => ?_)
            refine w_goto (tgt := 47) hc dX8_block_43 rfl ?_
            exact w_ireturn (v := q_4.1) hc hq dX8_block_47 rfl rfl rfl
set_option maxRecDepth 100000 in
set_option maxHeartbeats 4000000 in
theorem wl_X8_anywhere_20 {G : GT (Int32 × Mm)} {rm : Nat} (I : MI) (L : ML) (hc : Cx G cX8_anywhere yX8_anywhere.cls (some .int) 8 184) (hq : RetQ G anIW meW) (hK : gK G = lK rm) (hR : gR G = lR rm) (hn : gnL G = 2) : ∀ (n : Nat) (v1_4 : Int32), WW G 20 [(0, .ref 43), (1, .int v1_4)] [] I L (f_X8_anywhere_20 I L n v1_4) := by
  have hN : ∀ i, Nat.blt i 2 = true → i < gnL G := fun i h => hn ▸ Nat.blt_eq.mp h
  intro n
  induction n with
  | zero => intros; exact w_none _ _ _
  | succ n ih =>
    intros v1_4
    rw [f_X8_anywhere_20]
    refine w_iload_n (q := 21) (i := 1) (j := 1) hc dX8_anywhere_20 rfl rfl rfl ?_
    refine w_aload_n (q := 22) (i := 0) (j := 0) hc dX8_anywhere_21 rfl rfl rfl ?_
    refine gf_X8_118 (q := 25) hc dX8_anywhere_22 (k_43 hK) rfl ?_
    refine w_icmpge (q := 28) (tgt := 49) hc dX8_anywhere_25 rfl rfl ?_ ?_
    · refine w_iload_n (q := 50) (i := 1) (j := 1) hc dX8_anywhere_49 rfl rfl rfl ?_
      exact w_ireturn (v := v1_4) hc hq dX8_anywhere_50 rfl rfl rfl
    · refine w_aload_n (q := 29) (i := 0) (j := 0) hc dX8_anywhere_28 rfl rfl rfl ?_
      refine w_iconst (q := 30) hc dX8_anywhere_29 ci_0 rfl ?_
      refine w_iload_n (q := 31) (i := 1) (j := 1) hc dX8_anywhere_30 rfl rfl rfl ?_
      refine w_callV_Ri (q := 34) (st := []) (args := [.int 0, .int v1_4]) (p := 43) hc (m_X8_widthAt hK hR) dX8_anywhere_31 ml_X8_164 cf_X8_widthAt iv_X8_widthAt (k_43 hK) (C := RX8) (T := TX8) (N := 45) rfl rfl (Nat.lt_of_succ_le (Nat.le_of_ble_eq_true rfl)) rfl rfl (Nat.le_of_ble_eq_true rfl) ⟨Nat.le_of_ble_eq_true rfl, Nat.le_of_ble_eq_true rfl⟩ rfl (fun q_5 => ?_)
      refine w_aload_n (q := 35) (i := 0) (j := 0) hc dX8_anywhere_34 rfl rfl rfl ?_
      refine gf_X8_118 (q := 38) hc dX8_anywhere_35 (k_43 hK) rfl ?_
      refine w_iload_n (q := 39) (i := 1) (j := 1) hc dX8_anywhere_38 rfl rfl rfl ?_
      refine w_isub (q := 40) hc dX8_anywhere_39  rfl ?_
      refine w_icmpne (q := 43) (tgt := 49) hc dX8_anywhere_40 rfl rfl ?_ ?_
      · refine w_iincB (q := 46) (i := 1) (j := 1) (lv' := fun v1_6 => [(1, .int v1_6), (0, .ref 43)]) hc dX8_anywhere_43 rfl ci_1 (hN 1 rfl) (fun _ => rfl) rfl (fun v1_6 => ?_)
        refine w_goto (tgt := 20) hc dX8_anywhere_46 rfl ?_
        refine w_sub [1, 0] rfl ?_
        exact ih v1_6
      · refine w_iload_n (q := 50) (i := 1) (j := 1) hc dX8_anywhere_49 rfl rfl rfl ?_
        exact w_ireturn (v := v1_4) hc hq dX8_anywhere_50 rfl rfl rfl
set_option maxRecDepth 100000 in
set_option maxHeartbeats 4000000 in
theorem m_X8_anywhere {l : Launch} {K : KT} {R : MR} {rm : Nat} {I : MI} {L : ML} (hK0 : K = lK rm) (hR0 : R = lR rm) : MFg l yX8_anywhere cX8_anywhere 2 (some .int) 8 184 [.ref 43] K R I L anIW meW (f_X8_anywhere I L) := by
  refine mf_of (plainFor_of_name (by decide)) (Nat.le_of_ble_eq_true rfl) ?_
  intro G hc _ hK1 hR1 hn hq
  have hK := hK1.trans hK0
  have hR := hR1.trans hR0
  have hN : ∀ i, Nat.blt i 2 = true → i < gnL G := fun i h => hn ▸ Nat.blt_eq.mp h
  unfold f_X8_anywhere
  show WW G 0 [(0, .ref 43)] [] I L _
  refine w_aload_n (q := 1) (i := 0) (j := 0) hc dX8_anywhere_0 rfl rfl rfl ?_
  refine w_aload_n (q := 2) (i := 0) (j := 0) hc dX8_anywhere_1 rfl rfl rfl ?_
  refine w_iconst (q := 3) hc dX8_anywhere_2 ci_0 rfl ?_
  refine w_callV_Ri (q := 6) (st := [.ref 43]) (args := [.int 0]) (p := 43) hc (m_X8_whyHere hK hR) dX8_anywhere_3 ml_X8_260 cf_X8_whyHere iv_X8_whyHere (k_43 hK) (C := RX8) (T := TX8) (N := 45) rfl rfl (Nat.lt_of_succ_le (Nat.le_of_ble_eq_true rfl)) rfl rfl (Nat.le_of_ble_eq_true rfl) ⟨Nat.le_of_ble_eq_true rfl, Nat.le_of_ble_eq_true rfl⟩ rfl (fun q_1 => ?_)
  refine w_callV_Wz (q := 9) (st := []) (args := [.int q_1]) (p := 43) hc (m_X8_is hK hR) dX8_anywhere_6 ml_X8_194 cf_X8_is iv_X8_is (k_43 hK) (C := RX8) (T := TX8) (N := 45) rfl rfl (Nat.lt_of_succ_le (Nat.le_of_ble_eq_true rfl)) rfl rfl (Nat.le_of_ble_eq_true rfl) ⟨Nat.le_of_ble_eq_true rfl, Nat.le_of_ble_eq_true rfl⟩ rfl (fun q_2 => ?_)
  refine w_ifne (q := 12) (tgt := 14) hc dX8_anywhere_9 rfl rfl ?_ ?_
  · refine w_iconst (q := 13) hc dX8_anywhere_12 ci_m1 rfl ?_
    exact w_ireturn (v := (-1)) hc hq dX8_anywhere_13 rfl rfl rfl
  · refine w_aload_n (q := 15) (i := 0) (j := 0) hc dX8_anywhere_14 rfl rfl rfl ?_
    refine w_callV_Wv (q := 18) (st := []) (args := []) (p := 43) hc (m_X8_builds_ hK hR) dX8_anywhere_15 ml_X8_179 cf_X8_builds_ iv_X8_builds_ (k_43 hK) (C := RX8) (T := TX8) (N := 45) rfl rfl (Nat.lt_of_succ_le (Nat.le_of_ble_eq_true rfl)) rfl rfl (Nat.le_of_ble_eq_true rfl) ⟨Nat.le_of_ble_eq_true rfl, Nat.le_of_ble_eq_true rfl⟩ rfl (fun q_3 => ?_)
    refine w_iconst (q := 19) hc dX8_anywhere_18 ci_0 rfl ?_
    refine w_istore_n (q := 20) (i := 1) (lv' := [(1, .int 0), (0, .ref 43)]) hc dX8_anywhere_19 rfl (hN 1 rfl) rfl rfl ?_
    refine w_sub [1, 0] rfl ?_
    exact wl_X8_anywhere_20 q_3.1 q_3.2 hc hq hK hR hn FU 0
set_option maxRecDepth 100000 in
set_option maxHeartbeats 4000000 in
theorem wl_X8_fixing_38 {G : GT (Int32 × Mm)} {rm : Nat} (v1_6 : Int32) (hc : Cx G cX8_fixing yX8_fixing.cls (some .int) 11 245) (hq : RetQ G anIW meW) (hK : gK G = lK rm) (hR : gR G = lR rm) (hn : gnL G = 4) : ∀ (n : Nat) (v2_7 : Int32) (v3_8 : Int32) (I_9 : MI) (L_10 : ML), WW G 38 [(0, .ref 43), (1, .int v1_6), (2, .int v2_7), (3, .int v3_8)] [] I_9 L_10 (f_X8_fixing_38 v1_6 n v2_7 v3_8 I_9 L_10) := by
  have hN : ∀ i, Nat.blt i 4 = true → i < gnL G := fun i h => hn ▸ Nat.blt_eq.mp h
  intro n
  induction n with
  | zero => intros; exact w_none _ _ _
  | succ n ih =>
    intros v2_7 v3_8 I_9 L_10
    rw [f_X8_fixing_38]
    refine w_iload_n (q := 39) (i := 3) (j := 3) hc dX8_fixing_38 rfl rfl rfl ?_
    refine w_aload_n (q := 40) (i := 0) (j := 0) hc dX8_fixing_39 rfl rfl rfl ?_
    refine gf_X8_290 (q := 43) hc dX8_fixing_40 (k_43 hK) rfl ?_
    refine w_icmpge (q := 46) (tgt := 81) hc dX8_fixing_43 rfl rfl ?_ ?_
    · refine w_iload_n (q := 82) (i := 2) (j := 2) hc dX8_fixing_81 rfl rfl rfl ?_
      exact w_ireturn (v := v2_7) hc hq dX8_fixing_82 rfl rfl rfl
    · refine w_aload_n (q := 47) (i := 0) (j := 0) hc dX8_fixing_46 rfl rfl rfl ?_
      refine w_iload_n (q := 48) (i := 3) (j := 3) hc dX8_fixing_47 rfl rfl rfl ?_
      refine w_aload_n (q := 49) (i := 0) (j := 0) hc dX8_fixing_48 rfl rfl rfl ?_
      refine gf_X8_16 (q := 52) hc dX8_fixing_49 (k_43 hK) (r_43_6 hR) rfl ?_
      refine w_callV_Wv (q := 55) (st := []) (args := [.int v3_8, .ref 46]) (p := 43) hc (m_X8_laysOne hK hR (kB hK (k_46 hK))) dX8_fixing_52 ml_X8_296 cf_X8_laysOne iv_X8_laysOne (k_43 hK) (C := RX8) (T := TX8) (N := 45) rfl rfl (Nat.lt_of_succ_le (Nat.le_of_ble_eq_true rfl)) rfl rfl (Nat.le_of_ble_eq_true rfl) ⟨Nat.le_of_ble_eq_true rfl, Nat.le_of_ble_eq_true rfl⟩ rfl (fun q_11 => ?_)
      refine w_iload_n (q := 56) (i := 2) (j := 2) hc dX8_fixing_55 rfl rfl rfl ?_
      refine w_aload_n (q := 57) (i := 0) (j := 0) hc dX8_fixing_56 rfl rfl rfl ?_
      refine w_aload_n (q := 58) (i := 0) (j := 0) hc dX8_fixing_57 rfl rfl rfl ?_
      refine gf_X8_16 (q := 61) hc dX8_fixing_58 (k_43 hK) (r_43_6 hR) rfl ?_
      refine w_callV_Ri (q := 64) (st := [.int v2_7]) (args := [.ref 46]) (p := 43) hc (m_X8_staying hK hR (kB hK (k_46 hK))) dX8_fixing_61 ml_X8_251 cf_X8_staying iv_X8_staying (k_43 hK) (C := RX8) (T := TX8) (N := 45) rfl rfl (Nat.lt_of_succ_le (Nat.le_of_ble_eq_true rfl)) rfl rfl (Nat.le_of_ble_eq_true rfl) ⟨Nat.le_of_ble_eq_true rfl, Nat.le_of_ble_eq_true rfl⟩ rfl (fun q_12 => ?_)
      refine w_iload_n (q := 65) (i := 1) (j := 1) hc dX8_fixing_64 rfl rfl rfl ?_
      refine w_icmpne (q := 68) (tgt := 72) hc dX8_fixing_65 rfl rfl ?_ ?_
      · refine w_iconst (q := 69) hc dX8_fixing_68 ci_1 rfl ?_
        refine w_goto (tgt := 73) hc dX8_fixing_69 rfl ?_
        refine w_iadd (q := 74) hc dX8_fixing_73  rfl ?_
        refine w_istore_nB (q := 75) (i := 2) (lv' := fun v2_15 => [(2, .int v2_15), (0, .ref 43), (1, .int v1_6), (3, .int v3_8)]) hc dX8_fixing_74 rfl (hN 2 rfl) (fun _ => rfl) rfl (fun v2_15 => ?_)
        refine w_iincB (q := 78) (i := 3) (j := 3) (lv' := fun v3_16 => [(3, .int v3_16), (2, .int v2_15), (0, .ref 43), (1, .int v1_6)]) hc dX8_fixing_75 rfl ci_1 (hN 3 rfl) (fun _ => rfl) rfl (fun v3_16 => ?_)
        refine w_goto (tgt := 38) hc dX8_fixing_78 rfl ?_
        refine w_sub [2, 3, 1, 0] rfl ?_
        exact ih v2_15 v3_16 q_11.1 q_11.2
      · refine w_iconst (q := 73) hc dX8_fixing_72 ci_0 rfl ?_
        refine w_iadd (q := 74) hc dX8_fixing_73  rfl ?_
        refine w_istore_nB (q := 75) (i := 2) (lv' := fun v2_13 => [(2, .int v2_13), (0, .ref 43), (1, .int v1_6), (3, .int v3_8)]) hc dX8_fixing_74 rfl (hN 2 rfl) (fun _ => rfl) rfl (fun v2_13 => ?_)
        refine w_iincB (q := 78) (i := 3) (j := 3) (lv' := fun v3_14 => [(3, .int v3_14), (2, .int v2_13), (0, .ref 43), (1, .int v1_6)]) hc dX8_fixing_75 rfl ci_1 (hN 3 rfl) (fun _ => rfl) rfl (fun v3_14 => ?_)
        refine w_goto (tgt := 38) hc dX8_fixing_78 rfl ?_
        refine w_sub [2, 3, 1, 0] rfl ?_
        exact ih v2_13 v3_14 q_11.1 q_11.2
set_option maxRecDepth 100000 in
set_option maxHeartbeats 4000000 in
theorem m_X8_fixing {l : Launch} {K : KT} {R : MR} {rm : Nat} {a1 : Int32} {I : MI} {L : ML} (hK0 : K = lK rm) (hR0 : R = lR rm) : MFg l yX8_fixing cX8_fixing 4 (some .int) 11 245 [.ref 43, .int a1] K R I L anIW meW (f_X8_fixing a1 I L) := by
  refine mf_of (plainFor_of_name (by decide)) (Nat.le_of_ble_eq_true rfl) ?_
  intro G hc _ hK1 hR1 hn hq
  have hK := hK1.trans hK0
  have hR := hR1.trans hR0
  have hN : ∀ i, Nat.blt i 4 = true → i < gnL G := fun i h => hn ▸ Nat.blt_eq.mp h
  unfold f_X8_fixing
  show WW G 0 [(0, .ref 43), (1, .int a1)] [] I L _
  refine w_aload_n (q := 1) (i := 0) (j := 0) hc dX8_fixing_0 rfl rfl rfl ?_
  refine w_aload_n (q := 2) (i := 0) (j := 0) hc dX8_fixing_1 rfl rfl rfl ?_
  refine w_iload_n (q := 3) (i := 1) (j := 1) hc dX8_fixing_2 rfl rfl rfl ?_
  refine w_i2l (q := 4) hc dX8_fixing_3  rfl ?_
  refine w_lconst (q := 5) hc dX8_fixing_4 cl_0 rfl ?_
  refine w_ldc2 (q := 8) hc dX8_fixing_5 kl_X8_124 rfl ?_
  refine w_callS_Rz (q := 11) (st := [.ref 43, .ref 43]) (args := [.long (Int32.toInt64 a1), .long 0, .long 10]) hc (m_X8_isIn hK hR) dX8_fixing_8 ml_X8_114 cf_X8_isIn st_X8_isIn rfl rfl (Nat.le_of_ble_eq_true rfl) ⟨Nat.le_of_ble_eq_true rfl, Nat.le_of_ble_eq_true rfl⟩ rfl (fun q_1 => ?_)
  refine w_join (fun j19_349 : Bool → Option (Int32 × Mm) => ∀ (s0_2 : Bool), WW G 19 [(0, .ref 43), (1, .int a1)] [.int (b2i s0_2), .ref 43, .ref 43] I L (j19_349 s0_2)) ?_ ?_
  · intro s0_2
    refine w_callV_Wi (q := 22) (st := [.ref 43]) (args := [.int (b2i s0_2)]) (p := 43) hc (m_X8_whySmall hK hR) dX8_fixing_19 ml_X8_299 cf_X8_whySmall iv_X8_whySmall (k_43 hK) (C := RX8) (T := TX8) (N := 45) rfl rfl (Nat.lt_of_succ_le (Nat.le_of_ble_eq_true rfl)) rfl rfl (Nat.le_of_ble_eq_true rfl) ⟨Nat.le_of_ble_eq_true rfl, Nat.le_of_ble_eq_true rfl⟩ rfl (fun q_3 => ?_)
    refine w_callV_Wz (q := 25) (st := []) (args := [.int q_3.1]) (p := 43) hc (m_X8_is hK hR) dX8_fixing_22 ml_X8_194 cf_X8_is iv_X8_is (k_43 hK) (C := RX8) (T := TX8) (N := 45) rfl rfl (Nat.lt_of_succ_le (Nat.le_of_ble_eq_true rfl)) rfl rfl (Nat.le_of_ble_eq_true rfl) ⟨Nat.le_of_ble_eq_true rfl, Nat.le_of_ble_eq_true rfl⟩ rfl (fun q_4 => ?_)
    refine w_ifne (q := 28) (tgt := 30) hc dX8_fixing_25 rfl rfl ?_ ?_
    · refine w_iconst (q := 29) hc dX8_fixing_28 ci_m1 rfl ?_
      exact w_ireturn (v := (-1)) hc hq dX8_fixing_29 rfl rfl rfl
    · refine w_aload_n (q := 31) (i := 0) (j := 0) hc dX8_fixing_30 rfl rfl rfl ?_
      refine w_callV_Wv (q := 34) (st := []) (args := []) (p := 43) hc (m_X8_laysAll hK hR) dX8_fixing_31 ml_X8_293 cf_X8_laysAll iv_X8_laysAll (k_43 hK) (C := RX8) (T := TX8) (N := 45) rfl rfl (Nat.lt_of_succ_le (Nat.le_of_ble_eq_true rfl)) rfl rfl (Nat.le_of_ble_eq_true rfl) ⟨Nat.le_of_ble_eq_true rfl, Nat.le_of_ble_eq_true rfl⟩ rfl (fun q_5 => ?_)
      refine w_iconst (q := 35) hc dX8_fixing_34 ci_0 rfl ?_
      refine w_istore_n (q := 36) (i := 2) (lv' := [(2, .int 0), (0, .ref 43), (1, .int a1)]) hc dX8_fixing_35 rfl (hN 2 rfl) rfl rfl ?_
      refine w_iconst (q := 37) hc dX8_fixing_36 ci_0 rfl ?_
      refine w_istore_n (q := 38) (i := 3) (lv' := [(3, .int 0), (2, .int 0), (0, .ref 43), (1, .int a1)]) hc dX8_fixing_37 rfl (hN 3 rfl) rfl rfl ?_
      refine w_sub [2, 3, 1, 0] rfl ?_
      exact wl_X8_fixing_38 a1 hc hq hK hR hn FU 0 0 q_5.1 q_5.2
  · intro j19_349 hj19_349
    refine w_ifeq (q := 14) (tgt := 18) hc dX8_fixing_11 rfl rfl ?_ ?_
    · refine w_iconst (q := 19) hc dX8_fixing_18 ci_1 rfl ?_
      exact hj19_349 true
    · refine w_iconst (q := 15) hc dX8_fixing_14 ci_0 rfl ?_
      refine w_goto (tgt := 19) hc dX8_fixing_15 rfl ?_
      exact hj19_349 false
set_option maxRecDepth 100000 in
set_option maxHeartbeats 4000000 in
theorem wl_X8_colours_73 {G : GT (Int64 × Mm)} {rm : Nat} (v1_13 : Int32) (v2_14 : Int64) (v4_15 : Int32) (I : MI) (L : ML) (hc : Cx G cX8_colours yX8_colours.cls (some .long) 11 245) (hq : RetQ G anLW meW) (hK : gK G = lK rm) (hR : gR G = lR rm) (hn : gnL G = 8) (k0 : Int64 → Option (Int64 × Mm)) (hk0 : ∀ (v5_20 : Int64), WW G 91 [(0, .ref 43), (1, .int v1_13), (2, .long v2_14), (4, .int v4_15), (5, .long v5_20)] [] I L (k0 v5_20)) : ∀ (n : Nat) (v5_16 : Int64) (v7_17 : Int32), WW G 73 [(0, .ref 43), (1, .int v1_13), (2, .long v2_14), (4, .int v4_15), (5, .long v5_16), (7, .int v7_17)] [] I L (f_X8_colours_73 v1_13 v2_14 v4_15 I L k0 n v5_16 v7_17) := by
  have hN : ∀ i, Nat.blt i 8 = true → i < gnL G := fun i h => hn ▸ Nat.blt_eq.mp h
  intro n
  induction n with
  | zero => intros; exact w_none _ _ _
  | succ n ih =>
    intros v5_16 v7_17
    rw [f_X8_colours_73]
    refine w_iload (q := 75) (i := 7) (j := 5) hc dX8_colours_73 rfl rfl ?_
    refine w_ifle (q := 78) (tgt := 91) hc dX8_colours_75 rfl rfl ?_ ?_
    · refine w_sub [0, 1, 2, 3, 4] rfl ?_
      exact hk0 v5_16
    · refine w_lload (q := 80) (i := 5) (j := 4) hc dX8_colours_78 rfl rfl ?_
      refine w_iload_n (q := 81) (i := 1) (j := 1) hc dX8_colours_80 rfl rfl rfl ?_
      refine w_i2l (q := 82) hc dX8_colours_81  rfl ?_
      refine w_lmul (q := 83) hc dX8_colours_82  rfl ?_
      refine w_lstoreB (q := 85) (i := 5) (lv' := fun v5_18 => [(5, .long v5_18), (0, .ref 43), (1, .int v1_13), (2, .long v2_14), (4, .int v4_15), (7, .int v7_17)]) hc dX8_colours_83 (hN 6 rfl) (fun _ => rfl) rfl (fun v5_18 => ?_)
      refine w_iincB (q := 88) (i := 7) (j := 5) (lv' := fun v7_19 => [(7, .int v7_19), (5, .long v5_18), (0, .ref 43), (1, .int v1_13), (2, .long v2_14), (4, .int v4_15)]) hc dX8_colours_85 rfl ci_m1 (hN 7 rfl) (fun _ => rfl) rfl (fun v7_19 => ?_)
      refine w_goto (tgt := 73) hc dX8_colours_88 rfl ?_
      refine w_sub [2, 3, 4, 5, 1, 0] rfl ?_
      exact ih v5_18 v7_19
set_option maxRecDepth 100000 in
set_option maxHeartbeats 4000000 in
theorem wl_X8_colours_41 {G : GT (Int64 × Mm)} {rm : Nat} (v1_6 : Int32) (hc : Cx G cX8_colours yX8_colours.cls (some .long) 11 245) (hq : RetQ G anLW meW) (hK : gK G = lK rm) (hR : gR G = lR rm) (hn : gnL G = 8) (k0 : Int64 → MI → ML → Option (Int64 × Mm)) (hk0 : ∀ (v2_23 : Int64) (I_24 : MI) (L_25 : ML), WW G 102 [(0, .ref 43), (2, .long v2_23)] [] I_24 L_25 (k0 v2_23 I_24 L_25)) : ∀ (n : Nat) (v2_7 : Int64) (v4_8 : Int32) (I_9 : MI) (L_10 : ML), WW G 41 [(0, .ref 43), (1, .int v1_6), (2, .long v2_7), (4, .int v4_8)] [] I_9 L_10 (f_X8_colours_41 v1_6 k0 n v2_7 v4_8 I_9 L_10) := by
  have hN : ∀ i, Nat.blt i 8 = true → i < gnL G := fun i h => hn ▸ Nat.blt_eq.mp h
  intro n
  induction n with
  | zero => intros; exact w_none _ _ _
  | succ n ih =>
    intros v2_7 v4_8 I_9 L_10
    rw [f_X8_colours_41]
    refine w_iload (q := 43) (i := 4) (j := 3) hc dX8_colours_41 rfl rfl ?_
    refine w_aload_n (q := 44) (i := 0) (j := 0) hc dX8_colours_43 rfl rfl rfl ?_
    refine gf_X8_290 (q := 47) hc dX8_colours_44 (k_43 hK) rfl ?_
    refine w_icmpge (q := 50) (tgt := 102) hc dX8_colours_47 rfl rfl ?_ ?_
    · refine w_sub [0, 2] rfl ?_
      exact hk0 v2_7 I_9 L_10
    · refine w_aload_n (q := 51) (i := 0) (j := 0) hc dX8_colours_50 rfl rfl rfl ?_
      refine w_iload (q := 53) (i := 4) (j := 3) hc dX8_colours_51 rfl rfl ?_
      refine w_aload_n (q := 54) (i := 0) (j := 0) hc dX8_colours_53 rfl rfl rfl ?_
      refine gf_X8_16 (q := 57) hc dX8_colours_54 (k_43 hK) (r_43_6 hR) rfl ?_
      refine w_callV_Wv (q := 60) (st := []) (args := [.int v4_8, .ref 46]) (p := 43) hc (m_X8_laysOne hK hR (kB hK (k_46 hK))) dX8_colours_57 ml_X8_296 cf_X8_laysOne iv_X8_laysOne (k_43 hK) (C := RX8) (T := TX8) (N := 45) rfl rfl (Nat.lt_of_succ_le (Nat.le_of_ble_eq_true rfl)) rfl rfl (Nat.le_of_ble_eq_true rfl) ⟨Nat.le_of_ble_eq_true rfl, Nat.le_of_ble_eq_true rfl⟩ rfl (fun q_11 => ?_)
      refine w_lconst (q := 61) hc dX8_colours_60 cl_1 rfl ?_
      refine w_lstore (q := 63) (i := 5) (lv' := [(5, .long 1), (0, .ref 43), (1, .int v1_6), (2, .long v2_7), (4, .int v4_8)]) hc dX8_colours_61 (hN 6 rfl) rfl rfl ?_
      refine w_aload_n (q := 64) (i := 0) (j := 1) hc dX8_colours_63 rfl rfl rfl ?_
      refine w_aload_n (q := 65) (i := 0) (j := 1) hc dX8_colours_64 rfl rfl rfl ?_
      refine gf_X8_16 (q := 68) hc dX8_colours_65 (k_43 hK) (r_43_6 hR) rfl ?_
      refine w_callV_Ri (q := 71) (st := []) (args := [.ref 46]) (p := 43) hc (m_X8_cycles hK hR (kB hK (k_46 hK))) dX8_colours_68 ml_X8_243 cf_X8_cycles iv_X8_cycles (k_43 hK) (C := RX8) (T := TX8) (N := 45) rfl rfl (Nat.lt_of_succ_le (Nat.le_of_ble_eq_true rfl)) rfl rfl (Nat.le_of_ble_eq_true rfl) ⟨Nat.le_of_ble_eq_true rfl, Nat.le_of_ble_eq_true rfl⟩ rfl (fun q_12 => ?_)
      refine w_istore (q := 73) (i := 7) (lv' := [(7, .int q_12), (5, .long 1), (0, .ref 43), (1, .int v1_6), (2, .long v2_7), (4, .int v4_8)]) hc dX8_colours_71 (hN 7 rfl) rfl rfl ?_
      refine w_sub [2, 3, 4, 5, 1, 0] rfl ?_
      refine wl_X8_colours_73 v1_6 v2_7 v4_8 q_11.1 q_11.2 hc hq hK hR hn _ ?_ FU 1 q_12
      intro v5_20
      refine w_lload_n (q := 92) (i := 2) (j := 2) hc dX8_colours_91 rfl rfl rfl ?_
      refine w_lload (q := 94) (i := 5) (j := 4) hc dX8_colours_92 rfl rfl ?_
      refine w_ladd (q := 95) hc dX8_colours_94  rfl ?_
      refine w_lstore_nB (q := 96) (i := 2) (lv' := fun v2_21 => [(2, .long v2_21), (0, .ref 43), (1, .int v1_6), (4, .int v4_8), (5, .long v5_20)]) hc dX8_colours_95 rfl (hN 3 rfl) (fun _ => rfl) rfl (fun v2_21 => ?_)
      refine w_iincB (q := 99) (i := 4) (j := 3) (lv' := fun v4_22 => [(4, .int v4_22), (2, .long v2_21), (0, .ref 43), (1, .int v1_6), (5, .long v5_20)]) hc dX8_colours_96 rfl ci_1 (hN 4 rfl) (fun _ => rfl) rfl (fun v4_22 => ?_)
      refine w_goto (tgt := 41) hc dX8_colours_99 rfl ?_
      refine w_sub [2, 3, 1, 0] rfl ?_
      exact ih v2_21 v4_22 q_11.1 q_11.2
set_option maxRecDepth 100000 in
set_option maxHeartbeats 4000000 in
theorem m_X8_colours {l : Launch} {K : KT} {R : MR} {rm : Nat} {a1 : Int32} {I : MI} {L : ML} (hK0 : K = lK rm) (hR0 : R = lR rm) : MFg l yX8_colours cX8_colours 8 (some .long) 11 245 [.ref 43, .int a1] K R I L anLW meW (f_X8_colours a1 I L) := by
  refine mf_of (plainFor_of_name (by decide)) (Nat.le_of_ble_eq_true rfl) ?_
  intro G hc _ hK1 hR1 hn hq
  have hK := hK1.trans hK0
  have hR := hR1.trans hR0
  have hN : ∀ i, Nat.blt i 8 = true → i < gnL G := fun i h => hn ▸ Nat.blt_eq.mp h
  unfold f_X8_colours
  show WW G 0 [(0, .ref 43), (1, .int a1)] [] I L _
  refine w_aload_n (q := 1) (i := 0) (j := 0) hc dX8_colours_0 rfl rfl rfl ?_
  refine w_aload_n (q := 2) (i := 0) (j := 0) hc dX8_colours_1 rfl rfl rfl ?_
  refine w_iload_n (q := 3) (i := 1) (j := 1) hc dX8_colours_2 rfl rfl rfl ?_
  refine w_i2l (q := 4) hc dX8_colours_3  rfl ?_
  refine w_lconst (q := 5) hc dX8_colours_4 cl_1 rfl ?_
  refine w_ldc2 (q := 8) hc dX8_colours_5 kl_X8_380 rfl ?_
  refine w_callS_Rz (q := 11) (st := [.ref 43, .ref 43]) (args := [.long (Int32.toInt64 a1), .long 1, .long 5]) hc (m_X8_isIn hK hR) dX8_colours_8 ml_X8_114 cf_X8_isIn st_X8_isIn rfl rfl (Nat.le_of_ble_eq_true rfl) ⟨Nat.le_of_ble_eq_true rfl, Nat.le_of_ble_eq_true rfl⟩ rfl (fun q_1 => ?_)
  refine w_join (fun j19_351 : Bool → Option (Int64 × Mm) => ∀ (s0_2 : Bool), WW G 19 [(0, .ref 43), (1, .int a1)] [.int (b2i s0_2), .ref 43, .ref 43] I L (j19_351 s0_2)) ?_ ?_
  · intro s0_2
    refine w_callV_Wi (q := 22) (st := [.ref 43]) (args := [.int (b2i s0_2)]) (p := 43) hc (m_X8_whySmall hK hR) dX8_colours_19 ml_X8_299 cf_X8_whySmall iv_X8_whySmall (k_43 hK) (C := RX8) (T := TX8) (N := 45) rfl rfl (Nat.lt_of_succ_le (Nat.le_of_ble_eq_true rfl)) rfl rfl (Nat.le_of_ble_eq_true rfl) ⟨Nat.le_of_ble_eq_true rfl, Nat.le_of_ble_eq_true rfl⟩ rfl (fun q_3 => ?_)
    refine w_callV_Wz (q := 25) (st := []) (args := [.int q_3.1]) (p := 43) hc (m_X8_is hK hR) dX8_colours_22 ml_X8_194 cf_X8_is iv_X8_is (k_43 hK) (C := RX8) (T := TX8) (N := 45) rfl rfl (Nat.lt_of_succ_le (Nat.le_of_ble_eq_true rfl)) rfl rfl (Nat.le_of_ble_eq_true rfl) ⟨Nat.le_of_ble_eq_true rfl, Nat.le_of_ble_eq_true rfl⟩ rfl (fun q_4 => ?_)
    refine w_ifne (q := 28) (tgt := 32) hc dX8_colours_25 rfl rfl ?_ ?_
    · refine w_ldc2 (q := 31) hc dX8_colours_28 kl_X8_208 rfl ?_
      exact w_lreturn hc hq dX8_colours_31 rfl rfl
    · refine w_aload_n (q := 33) (i := 0) (j := 0) hc dX8_colours_32 rfl rfl rfl ?_
      refine w_callV_Wv (q := 36) (st := []) (args := []) (p := 43) hc (m_X8_laysAll hK hR) dX8_colours_33 ml_X8_293 cf_X8_laysAll iv_X8_laysAll (k_43 hK) (C := RX8) (T := TX8) (N := 45) rfl rfl (Nat.lt_of_succ_le (Nat.le_of_ble_eq_true rfl)) rfl rfl (Nat.le_of_ble_eq_true rfl) ⟨Nat.le_of_ble_eq_true rfl, Nat.le_of_ble_eq_true rfl⟩ rfl (fun q_5 => ?_)
      refine w_lconst (q := 37) hc dX8_colours_36 cl_0 rfl ?_
      refine w_lstore_n (q := 38) (i := 2) (lv' := [(2, .long 0), (0, .ref 43), (1, .int a1)]) hc dX8_colours_37 rfl (hN 3 rfl) rfl rfl ?_
      refine w_iconst (q := 39) hc dX8_colours_38 ci_0 rfl ?_
      refine w_istore (q := 41) (i := 4) (lv' := [(4, .int 0), (2, .long 0), (0, .ref 43), (1, .int a1)]) hc dX8_colours_39 (hN 4 rfl) rfl rfl ?_
      refine w_sub [2, 3, 1, 0] rfl ?_
      refine wl_X8_colours_41 a1 hc hq hK hR hn _ ?_ FU 0 0 q_5.1 q_5.2
      intro v2_23 I_24 L_25
      refine w_lload_n (q := 103) (i := 2) (j := 1) hc dX8_colours_102 rfl rfl rfl ?_
      refine w_aload_n (q := 104) (i := 0) (j := 0) hc dX8_colours_103 rfl rfl rfl ?_
      refine gf_X8_290 (q := 107) hc dX8_colours_104 (k_43 hK) rfl ?_
      refine w_i2l (q := 108) hc dX8_colours_107  rfl ?_
      refine w_ldiv (q := 109) hc dX8_colours_108  rfl ?_
      exact w_lreturn hc hq dX8_colours_109 rfl rfl
  · intro j19_351 hj19_351
    refine w_ifeq (q := 14) (tgt := 18) hc dX8_colours_11 rfl rfl ?_ ?_
    · refine w_iconst (q := 19) hc dX8_colours_18 ci_1 rfl ?_
      exact hj19_351 true
    · refine w_iconst (q := 15) hc dX8_colours_14 ci_0 rfl ?_
      refine w_goto (tgt := 19) hc dX8_colours_15 rfl ?_
      exact hj19_351 false
set_option maxRecDepth 100000 in
set_option maxHeartbeats 4000000 in
theorem wl_X8_typeOf_25 {G : GT Int64} {rm : Nat} (a1 : Nat) (v2_4 : Int64) (v4_5 : Int32) (I : MI) (L : ML) (hc : Cx G cX8_typeOf yX8_typeOf.cls (some .long) 1 23) (hq : RetQ G anL (meR I L)) (hK : gK G = lK rm) (hR : gR G = lR rm) (hn : gnL G = 8) (ha1 : (lK rm)[a1]? = some (10, 10)) (k0 : Int64 → Option Int64) (hk0 : ∀ (v5_10 : Int64), WW G 45 [(0, .ref 43), (1, .ref a1), (2, .long v2_4), (4, .int v4_5), (5, .long v5_10)] [] I L (k0 v5_10)) : ∀ (n : Nat) (v5_6 : Int64) (v7_7 : Int32), WW G 25 [(0, .ref 43), (1, .ref a1), (2, .long v2_4), (4, .int v4_5), (5, .long v5_6), (7, .int v7_7)] [] I L (f_X8_typeOf_25 a1 v2_4 v4_5 I L k0 n v5_6 v7_7) := by
  have hN : ∀ i, Nat.blt i 8 = true → i < gnL G := fun i h => hn ▸ Nat.blt_eq.mp h
  intro n
  induction n with
  | zero => intros; exact w_none _ _ _
  | succ n ih =>
    intros v5_6 v7_7
    rw [f_X8_typeOf_25]
    refine w_iload (q := 27) (i := 7) (j := 5) hc dX8_typeOf_25 rfl rfl ?_
    refine w_iconst (q := 28) hc dX8_typeOf_27 ci_1 rfl ?_
    refine w_icmple (q := 31) (tgt := 45) hc dX8_typeOf_28 rfl rfl ?_ ?_
    · refine w_sub [0, 1, 2, 3, 4] rfl ?_
      exact hk0 v5_6
    · refine w_lload (q := 33) (i := 5) (j := 4) hc dX8_typeOf_31 rfl rfl ?_
      refine w_ldc2 (q := 36) hc dX8_typeOf_33 kl_X8_382 rfl ?_
      refine w_lmul (q := 37) hc dX8_typeOf_36  rfl ?_
      refine w_lstoreB (q := 39) (i := 5) (lv' := fun v5_8 => [(5, .long v5_8), (0, .ref 43), (1, .ref a1), (2, .long v2_4), (4, .int v4_5), (7, .int v7_7)]) hc dX8_typeOf_37 (hN 6 rfl) (fun _ => rfl) rfl (fun v5_8 => ?_)
      refine w_iincB (q := 42) (i := 7) (j := 5) (lv' := fun v7_9 => [(7, .int v7_9), (5, .long v5_8), (0, .ref 43), (1, .ref a1), (2, .long v2_4), (4, .int v4_5)]) hc dX8_typeOf_39 rfl ci_m1 (hN 7 rfl) (fun _ => rfl) rfl (fun v7_9 => ?_)
      refine w_goto (tgt := 25) hc dX8_typeOf_42 rfl ?_
      refine w_sub [2, 3, 4, 5, 1, 0] rfl ?_
      exact ih v5_8 v7_9
set_option maxRecDepth 100000 in
set_option maxHeartbeats 4000000 in
theorem wl_X8_typeOf_5 {G : GT Int64} {rm : Nat} (a1 : Nat) (I : MI) (L : ML) (hc : Cx G cX8_typeOf yX8_typeOf.cls (some .long) 1 23) (hq : RetQ G anL (meR I L)) (hK : gK G = lK rm) (hR : gR G = lR rm) (hn : gnL G = 8) (ha1 : (lK rm)[a1]? = some (10, 10)) : ∀ (n : Nat) (v2_1 : Int64) (v4_2 : Int32), WW G 5 [(0, .ref 43), (1, .ref a1), (2, .long v2_1), (4, .int v4_2)] [] I L (f_X8_typeOf_5 a1 I L n v2_1 v4_2) := by
  have hN : ∀ i, Nat.blt i 8 = true → i < gnL G := fun i h => hn ▸ Nat.blt_eq.mp h
  intro n
  induction n with
  | zero => intros; exact w_none _ _ _
  | succ n ih =>
    intros v2_1 v4_2
    rw [f_X8_typeOf_5]
    refine w_iload (q := 7) (i := 4) (j := 3) hc dX8_typeOf_5 rfl rfl ?_
    refine w_aload_n (q := 8) (i := 0) (j := 0) hc dX8_typeOf_7 rfl rfl rfl ?_
    refine gf_X8_118 (q := 11) hc dX8_typeOf_8 (k_43 hK) rfl ?_
    refine w_icmpge (q := 14) (tgt := 69) hc dX8_typeOf_11 rfl rfl ?_ ?_
    · refine w_lload_n (q := 70) (i := 2) (j := 2) hc dX8_typeOf_69 rfl rfl rfl ?_
      exact w_lreturn hc hq dX8_typeOf_70 rfl rfl
    · refine w_lconst (q := 15) hc dX8_typeOf_14 cl_1 rfl ?_
      refine w_lstore (q := 17) (i := 5) (lv' := [(5, .long 1), (0, .ref 43), (1, .ref a1), (2, .long v2_1), (4, .int v4_2)]) hc dX8_typeOf_15 (hN 6 rfl) rfl rfl ?_
      refine w_aload_n (q := 18) (i := 1) (j := 2) hc dX8_typeOf_17 rfl rfl rfl ?_
      refine w_iload (q := 20) (i := 4) (j := 4) hc dX8_typeOf_18 rfl rfl ?_
      refine w_callS_Ri (q := 23) (st := []) (args := [.ref a1, .int v4_2]) hc (m_X8_cycleFrom hK hR (kB hK (kA hK ha1))) dX8_typeOf_20 ml_X8_236 cf_X8_cycleFrom st_X8_cycleFrom rfl rfl (Nat.le_of_ble_eq_true rfl) ⟨Nat.le_of_ble_eq_true rfl, Nat.le_of_ble_eq_true rfl⟩ rfl (fun q_3 => ?_)
      refine w_istore (q := 25) (i := 7) (lv' := [(7, .int q_3), (5, .long 1), (0, .ref 43), (1, .ref a1), (2, .long v2_1), (4, .int v4_2)]) hc dX8_typeOf_23 (hN 7 rfl) rfl rfl ?_
      refine w_sub [2, 3, 4, 5, 1, 0] rfl ?_
      refine wl_X8_typeOf_25 a1 v2_1 v4_2 I L hc hq hK hR hn ha1 _ ?_ FU 1 q_3
      intro v5_10
      refine w_lload_n (q := 46) (i := 2) (j := 2) hc dX8_typeOf_45 rfl rfl rfl ?_
      refine w_aload_n (q := 47) (i := 1) (j := 1) hc dX8_typeOf_46 rfl rfl rfl ?_
      refine w_iload (q := 49) (i := 4) (j := 3) hc dX8_typeOf_47 rfl rfl ?_
      refine w_callS_Ri (q := 52) (st := [.long v2_1]) (args := [.ref a1, .int v4_2]) hc (m_X8_cycleFrom hK hR (kB hK (kA hK ha1))) dX8_typeOf_49 ml_X8_236 cf_X8_cycleFrom st_X8_cycleFrom rfl rfl (Nat.le_of_ble_eq_true rfl) ⟨Nat.le_of_ble_eq_true rfl, Nat.le_of_ble_eq_true rfl⟩ rfl (fun q_11 => ?_)
      refine w_ifle (q := 55) (tgt := 60) hc dX8_typeOf_52 rfl rfl ?_ ?_
      · refine w_lconst (q := 61) hc dX8_typeOf_60 cl_0 rfl ?_
        refine w_ladd (q := 62) hc dX8_typeOf_61  rfl ?_
        refine w_lstore_nB (q := 63) (i := 2) (lv' := fun v2_12 => [(2, .long v2_12), (0, .ref 43), (1, .ref a1), (4, .int v4_2), (5, .long v5_10)]) hc dX8_typeOf_62 rfl (hN 3 rfl) (fun _ => rfl) rfl (fun v2_12 => ?_)
        refine w_iincB (q := 66) (i := 4) (j := 3) (lv' := fun v4_13 => [(4, .int v4_13), (2, .long v2_12), (0, .ref 43), (1, .ref a1), (5, .long v5_10)]) hc dX8_typeOf_63 rfl ci_1 (hN 4 rfl) (fun _ => rfl) rfl (fun v4_13 => ?_)
        refine w_goto (tgt := 5) hc dX8_typeOf_66 rfl ?_
        refine w_sub [2, 3, 1, 0] rfl ?_
        exact ih v2_12 v4_13
      · refine w_lload (q := 57) (i := 5) (j := 4) hc dX8_typeOf_55 rfl rfl ?_
        refine w_goto (tgt := 61) hc dX8_typeOf_57 rfl ?_
        refine w_ladd (q := 62) hc dX8_typeOf_61  rfl ?_
        refine w_lstore_nB (q := 63) (i := 2) (lv' := fun v2_14 => [(2, .long v2_14), (0, .ref 43), (1, .ref a1), (4, .int v4_2), (5, .long v5_10)]) hc dX8_typeOf_62 rfl (hN 3 rfl) (fun _ => rfl) rfl (fun v2_14 => ?_)
        refine w_iincB (q := 66) (i := 4) (j := 3) (lv' := fun v4_15 => [(4, .int v4_15), (2, .long v2_14), (0, .ref 43), (1, .ref a1), (5, .long v5_10)]) hc dX8_typeOf_63 rfl ci_1 (hN 4 rfl) (fun _ => rfl) rfl (fun v4_15 => ?_)
        refine w_goto (tgt := 5) hc dX8_typeOf_66 rfl ?_
        refine w_sub [2, 3, 1, 0] rfl ?_
        exact ih v2_14 v4_15
set_option maxRecDepth 100000 in
set_option maxHeartbeats 4000000 in
theorem m_X8_typeOf {l : Launch} {K : KT} {R : MR} {rm : Nat} {a1 : Nat} {I : MI} {L : ML} (hK0 : K = lK rm) (hR0 : R = lR rm) (ha1 : (lK rm)[a1]? = some (10, 10)) : MFg l yX8_typeOf cX8_typeOf 8 (some .long) 1 23 [.ref 43, .ref a1] K R I L anL (meR I L) (f_X8_typeOf a1 I L) := by
  refine mf_of (plainFor_of_name (by decide)) (Nat.le_of_ble_eq_true rfl) ?_
  intro G hc _ hK1 hR1 hn hq
  have hK := hK1.trans hK0
  have hR := hR1.trans hR0
  have hN : ∀ i, Nat.blt i 8 = true → i < gnL G := fun i h => hn ▸ Nat.blt_eq.mp h
  unfold f_X8_typeOf
  show WW G 0 [(0, .ref 43), (1, .ref a1)] [] I L _
  refine w_lconst (q := 1) hc dX8_typeOf_0 cl_0 rfl ?_
  refine w_lstore_n (q := 2) (i := 2) (lv' := [(2, .long 0), (0, .ref 43), (1, .ref a1)]) hc dX8_typeOf_1 rfl (hN 3 rfl) rfl rfl ?_
  refine w_iconst (q := 3) hc dX8_typeOf_2 ci_0 rfl ?_
  refine w_istore (q := 5) (i := 4) (lv' := [(4, .int 0), (2, .long 0), (0, .ref 43), (1, .ref a1)]) hc dX8_typeOf_3 (hN 4 rfl) rfl rfl ?_
  refine w_sub [2, 3, 1, 0] rfl ?_
  exact wl_X8_typeOf_5 a1 I L hc hq hK hR hn ha1 FU 0 0
set_option maxRecDepth 100000 in
set_option maxHeartbeats 4000000 in
theorem wl_X8_typed_39 {G : GT (Int32 × Mm)} {rm : Nat} (hc : Cx G cX8_typed yX8_typed.cls (some .int) 11 245) (hq : RetQ G anIW meW) (hK : gK G = lK rm) (hR : gR G = lR rm) (hn : gnL G = 5) : ∀ (n : Nat) (v3_6 : Int32) (v4_7 : Int32) (I_8 : MI) (L_9 : ML), WW G 39 [(0, .ref 43), (3, .int v3_6), (4, .int v4_7)] [] I_8 L_9 (f_X8_typed_39 n v3_6 v4_7 I_8 L_9) := by
  have hN : ∀ i, Nat.blt i 5 = true → i < gnL G := fun i h => hn ▸ Nat.blt_eq.mp h
  intro n
  induction n with
  | zero => intros; exact w_none _ _ _
  | succ n ih =>
    intros v3_6 v4_7 I_8 L_9
    rw [f_X8_typed_39]
    refine w_iload (q := 41) (i := 4) (j := 2) hc dX8_typed_39 rfl rfl ?_
    refine w_aload_n (q := 42) (i := 0) (j := 0) hc dX8_typed_41 rfl rfl rfl ?_
    refine gf_X8_290 (q := 45) hc dX8_typed_42 (k_43 hK) rfl ?_
    refine w_icmpge (q := 48) (tgt := 92) hc dX8_typed_45 rfl rfl ?_ ?_
    · refine w_iload_n (q := 93) (i := 3) (j := 1) hc dX8_typed_92 rfl rfl rfl ?_
      exact w_ireturn (v := v3_6) hc hq dX8_typed_93 rfl rfl rfl
    · refine w_aload_n (q := 49) (i := 0) (j := 0) hc dX8_typed_48 rfl rfl rfl ?_
      refine w_iload (q := 51) (i := 4) (j := 2) hc dX8_typed_49 rfl rfl ?_
      refine w_aload_n (q := 52) (i := 0) (j := 0) hc dX8_typed_51 rfl rfl rfl ?_
      refine gf_X8_16 (q := 55) hc dX8_typed_52 (k_43 hK) (r_43_6 hR) rfl ?_
      refine w_callV_Wv (q := 58) (st := []) (args := [.int v4_7, .ref 46]) (p := 43) hc (m_X8_laysOne hK hR (kB hK (k_46 hK))) dX8_typed_55 ml_X8_296 cf_X8_laysOne iv_X8_laysOne (k_43 hK) (C := RX8) (T := TX8) (N := 45) rfl rfl (Nat.lt_of_succ_le (Nat.le_of_ble_eq_true rfl)) rfl rfl (Nat.le_of_ble_eq_true rfl) ⟨Nat.le_of_ble_eq_true rfl, Nat.le_of_ble_eq_true rfl⟩ rfl (fun q_10 => ?_)
      refine w_iload_n (q := 59) (i := 3) (j := 1) hc dX8_typed_58 rfl rfl rfl ?_
      refine w_aload_n (q := 60) (i := 0) (j := 0) hc dX8_typed_59 rfl rfl rfl ?_
      refine w_aload_n (q := 61) (i := 0) (j := 0) hc dX8_typed_60 rfl rfl rfl ?_
      refine gf_X8_16 (q := 64) hc dX8_typed_61 (k_43 hK) (r_43_6 hR) rfl ?_
      refine w_callV_Rl (q := 67) (st := [.int v3_6]) (args := [.ref 46]) (p := 43) hc (m_X8_typeOf hK hR (kB hK (k_46 hK))) dX8_typed_64 ml_X8_384 cf_X8_typeOf iv_X8_typeOf (k_43 hK) (C := RX8) (T := TX8) (N := 45) rfl rfl (Nat.lt_of_succ_le (Nat.le_of_ble_eq_true rfl)) rfl rfl (Nat.le_of_ble_eq_true rfl) ⟨Nat.le_of_ble_eq_true rfl, Nat.le_of_ble_eq_true rfl⟩ rfl (fun q_11 => ?_)
      refine w_aload_n (q := 68) (i := 0) (j := 0) hc dX8_typed_67 rfl rfl rfl ?_
      refine w_aload_n (q := 69) (i := 0) (j := 0) hc dX8_typed_68 rfl rfl rfl ?_
      refine gf_X8_19 (q := 72) hc dX8_typed_69 (k_43 hK) (r_43_7 hR) rfl ?_
      refine w_callV_Rl (q := 75) (st := [.long q_11, .int v3_6]) (args := [.ref 47]) (p := 43) hc (m_X8_typeOf hK hR (kB hK (k_47 hK))) dX8_typed_72 ml_X8_384 cf_X8_typeOf iv_X8_typeOf (k_43 hK) (C := RX8) (T := TX8) (N := 45) rfl rfl (Nat.lt_of_succ_le (Nat.le_of_ble_eq_true rfl)) rfl rfl (Nat.le_of_ble_eq_true rfl) ⟨Nat.le_of_ble_eq_true rfl, Nat.le_of_ble_eq_true rfl⟩ rfl (fun q_12 => ?_)
      refine w_lcmp (q := 76) hc dX8_typed_75  rfl ?_
      refine w_ifne (q := 79) (tgt := 83) hc dX8_typed_76 rfl rfl ?_ ?_
      · refine w_iconst (q := 80) hc dX8_typed_79 ci_1 rfl ?_
        refine w_goto (tgt := 84) hc dX8_typed_80 rfl ?_
        refine w_iadd (q := 85) hc dX8_typed_84  rfl ?_
        refine w_istore_nB (q := 86) (i := 3) (lv' := fun v3_15 => [(3, .int v3_15), (0, .ref 43), (4, .int v4_7)]) hc dX8_typed_85 rfl (hN 3 rfl) (fun _ => rfl) rfl (fun v3_15 => ?_)
        refine w_iincB (q := 89) (i := 4) (j := 2) (lv' := fun v4_16 => [(4, .int v4_16), (3, .int v3_15), (0, .ref 43)]) hc dX8_typed_86 rfl ci_1 (hN 4 rfl) (fun _ => rfl) rfl (fun v4_16 => ?_)
        refine w_goto (tgt := 39) hc dX8_typed_89 rfl ?_
        refine w_sub [2, 1, 0] rfl ?_
        exact ih v3_15 v4_16 q_10.1 q_10.2
      · refine w_iconst (q := 84) hc dX8_typed_83 ci_0 rfl ?_
        refine w_iadd (q := 85) hc dX8_typed_84  rfl ?_
        refine w_istore_nB (q := 86) (i := 3) (lv' := fun v3_13 => [(3, .int v3_13), (0, .ref 43), (4, .int v4_7)]) hc dX8_typed_85 rfl (hN 3 rfl) (fun _ => rfl) rfl (fun v3_13 => ?_)
        refine w_iincB (q := 89) (i := 4) (j := 2) (lv' := fun v4_14 => [(4, .int v4_14), (3, .int v3_13), (0, .ref 43)]) hc dX8_typed_86 rfl ci_1 (hN 4 rfl) (fun _ => rfl) rfl (fun v4_14 => ?_)
        refine w_goto (tgt := 39) hc dX8_typed_89 rfl ?_
        refine w_sub [2, 1, 0] rfl ?_
        exact ih v3_13 v4_14 q_10.1 q_10.2
set_option maxRecDepth 100000 in
set_option maxHeartbeats 4000000 in
theorem m_X8_typed {l : Launch} {K : KT} {R : MR} {rm : Nat} {a1 : Int64} {I : MI} {L : ML} (hK0 : K = lK rm) (hR0 : R = lR rm) : MFg l yX8_typed cX8_typed 5 (some .int) 11 245 [.ref 43, .long a1] K R I L anIW meW (f_X8_typed a1 I L) := by
  refine mf_of (plainFor_of_name (by decide)) (Nat.le_of_ble_eq_true rfl) ?_
  intro G hc _ hK1 hR1 hn hq
  have hK := hK1.trans hK0
  have hR := hR1.trans hR0
  have hN : ∀ i, Nat.blt i 5 = true → i < gnL G := fun i h => hn ▸ Nat.blt_eq.mp h
  unfold f_X8_typed
  show WW G 0 [(0, .ref 43), (1, .long a1)] [] I L _
  refine w_aload_n (q := 1) (i := 0) (j := 0) hc dX8_typed_0 rfl rfl rfl ?_
  refine w_aload_n (q := 2) (i := 0) (j := 0) hc dX8_typed_1 rfl rfl rfl ?_
  refine w_aload_n (q := 3) (i := 0) (j := 0) hc dX8_typed_2 rfl rfl rfl ?_
  refine w_lload_n (q := 4) (i := 1) (j := 1) hc dX8_typed_3 rfl rfl rfl ?_
  refine w_aload_n (q := 5) (i := 0) (j := 0) hc dX8_typed_4 rfl rfl rfl ?_
  refine gf_X8_19 (q := 8) hc dX8_typed_5 (k_43 hK) (r_43_7 hR) rfl ?_
  refine w_callV_Wz (q := 11) (st := [.ref 43, .ref 43]) (args := [.long a1, .ref 47]) (p := 43) hc (m_X8_lies hK hR (kB hK (k_47 hK))) dX8_typed_8 ml_X8_217 cf_X8_lies iv_X8_lies (k_43 hK) (C := RX8) (T := TX8) (N := 45) rfl rfl (Nat.lt_of_succ_le (Nat.le_of_ble_eq_true rfl)) rfl rfl (Nat.le_of_ble_eq_true rfl) ⟨Nat.le_of_ble_eq_true rfl, Nat.le_of_ble_eq_true rfl⟩ rfl (fun q_1 => ?_)
  refine w_join (fun j19_359 : Bool → Option (Int32 × Mm) => ∀ (s0_2 : Bool), WW G 19 [(0, .ref 43)] [.int (b2i s0_2), .ref 43, .ref 43] q_1.2.1 q_1.2.2 (j19_359 s0_2)) ?_ ?_
  · intro s0_2
    refine w_callV_Wi (q := 22) (st := [.ref 43]) (args := [.int (b2i s0_2)]) (p := 43) hc (m_X8_whySmall hK hR) dX8_typed_19 ml_X8_299 cf_X8_whySmall iv_X8_whySmall (k_43 hK) (C := RX8) (T := TX8) (N := 45) rfl rfl (Nat.lt_of_succ_le (Nat.le_of_ble_eq_true rfl)) rfl rfl (Nat.le_of_ble_eq_true rfl) ⟨Nat.le_of_ble_eq_true rfl, Nat.le_of_ble_eq_true rfl⟩ rfl (fun q_3 => ?_)
    refine w_callV_Wz (q := 25) (st := []) (args := [.int q_3.1]) (p := 43) hc (m_X8_is hK hR) dX8_typed_22 ml_X8_194 cf_X8_is iv_X8_is (k_43 hK) (C := RX8) (T := TX8) (N := 45) rfl rfl (Nat.lt_of_succ_le (Nat.le_of_ble_eq_true rfl)) rfl rfl (Nat.le_of_ble_eq_true rfl) ⟨Nat.le_of_ble_eq_true rfl, Nat.le_of_ble_eq_true rfl⟩ rfl (fun q_4 => ?_)
    refine w_ifne (q := 28) (tgt := 30) hc dX8_typed_25 rfl rfl ?_ ?_
    · refine w_iconst (q := 29) hc dX8_typed_28 ci_m1 rfl ?_
      exact w_ireturn (v := (-1)) hc hq dX8_typed_29 rfl rfl rfl
    · refine w_aload_n (q := 31) (i := 0) (j := 0) hc dX8_typed_30 rfl rfl rfl ?_
      refine w_callV_Wv (q := 34) (st := []) (args := []) (p := 43) hc (m_X8_laysAll hK hR) dX8_typed_31 ml_X8_293 cf_X8_laysAll iv_X8_laysAll (k_43 hK) (C := RX8) (T := TX8) (N := 45) rfl rfl (Nat.lt_of_succ_le (Nat.le_of_ble_eq_true rfl)) rfl rfl (Nat.le_of_ble_eq_true rfl) ⟨Nat.le_of_ble_eq_true rfl, Nat.le_of_ble_eq_true rfl⟩ rfl (fun q_5 => ?_)
      refine w_iconst (q := 35) hc dX8_typed_34 ci_0 rfl ?_
      refine w_istore_n (q := 36) (i := 3) (lv' := [(3, .int 0), (0, .ref 43)]) hc dX8_typed_35 rfl (hN 3 rfl) rfl rfl ?_
      refine w_iconst (q := 37) hc dX8_typed_36 ci_0 rfl ?_
      refine w_istore (q := 39) (i := 4) (lv' := [(4, .int 0), (3, .int 0), (0, .ref 43)]) hc dX8_typed_37 (hN 4 rfl) rfl rfl ?_
      refine w_sub [2, 1, 0] rfl ?_
      exact wl_X8_typed_39 hc hq hK hR hn FU 0 0 q_5.1 q_5.2
  · intro j19_359 hj19_359
    refine w_ifeq (q := 14) (tgt := 18) hc dX8_typed_11 rfl rfl ?_ ?_
    · refine w_iconst (q := 19) hc dX8_typed_18 ci_1 rfl ?_
      refine w_sub [0] rfl ?_
      exact hj19_359 true
    · refine w_iconst (q := 15) hc dX8_typed_14 ci_0 rfl ?_
      refine w_goto (tgt := 19) hc dX8_typed_15 rfl ?_
      refine w_sub [0] rfl ?_
      exact hj19_359 false
set_option maxRecDepth 100000 in
set_option maxHeartbeats 4000000 in
theorem wl_X8_root_49 {G : GT (Int32 × Mm)} {rm : Nat} (v3_7 : Int32) (hc : Cx G cX8_root yX8_root.cls (some .int) 11 245) (hq : RetQ G anIW meW) (hK : gK G = lK rm) (hR : gR G = lR rm) (hn : gnL G = 5) (k0 : MI → ML → Option (Int32 × Mm)) (hk0 : ∀ (I_16 : MI) (L_17 : ML), WW G 113 [(0, .ref 43)] [] I_16 L_17 (k0 I_16 L_17)) : ∀ (n : Nat) (v4_8 : Int32) (I_9 : MI) (L_10 : ML), WW G 49 [(0, .ref 43), (3, .int v3_7), (4, .int v4_8)] [] I_9 L_10 (f_X8_root_49 v3_7 k0 n v4_8 I_9 L_10) := by
  have hN : ∀ i, Nat.blt i 5 = true → i < gnL G := fun i h => hn ▸ Nat.blt_eq.mp h
  intro n
  induction n with
  | zero => intros; exact w_none _ _ _
  | succ n ih =>
    intros v4_8 I_9 L_10
    rw [f_X8_root_49]
    refine w_iload (q := 51) (i := 4) (j := 2) hc dX8_root_49 rfl rfl ?_
    refine w_aload_n (q := 52) (i := 0) (j := 0) hc dX8_root_51 rfl rfl rfl ?_
    refine gf_X8_290 (q := 55) hc dX8_root_52 (k_43 hK) rfl ?_
    refine w_icmpge (q := 58) (tgt := 113) hc dX8_root_55 rfl rfl ?_ ?_
    · refine w_sub [0] rfl ?_
      exact hk0 I_9 L_10
    · refine w_aload_n (q := 59) (i := 0) (j := 0) hc dX8_root_58 rfl rfl rfl ?_
      refine w_iload (q := 61) (i := 4) (j := 2) hc dX8_root_59 rfl rfl ?_
      refine w_aload_n (q := 62) (i := 0) (j := 0) hc dX8_root_61 rfl rfl rfl ?_
      refine gf_X8_16 (q := 65) hc dX8_root_62 (k_43 hK) (r_43_6 hR) rfl ?_
      refine w_callV_Wv (q := 68) (st := []) (args := [.int v4_8, .ref 46]) (p := 43) hc (m_X8_laysOne hK hR (kB hK (k_46 hK))) dX8_root_65 ml_X8_296 cf_X8_laysOne iv_X8_laysOne (k_43 hK) (C := RX8) (T := TX8) (N := 45) rfl rfl (Nat.lt_of_succ_le (Nat.le_of_ble_eq_true rfl)) rfl rfl (Nat.le_of_ble_eq_true rfl) ⟨Nat.le_of_ble_eq_true rfl, Nat.le_of_ble_eq_true rfl⟩ rfl (fun q_11 => ?_)
      refine w_aload_n (q := 69) (i := 0) (j := 0) hc dX8_root_68 rfl rfl rfl ?_
      refine w_aload_n (q := 70) (i := 0) (j := 0) hc dX8_root_69 rfl rfl rfl ?_
      refine gf_X8_16 (q := 73) hc dX8_root_70 (k_43 hK) (r_43_6 hR) rfl ?_
      refine w_iload_n (q := 74) (i := 3) (j := 1) hc dX8_root_73 rfl rfl rfl ?_
      refine w_aload_n (q := 75) (i := 0) (j := 0) hc dX8_root_74 rfl rfl rfl ?_
      refine w_aload_n (q := 76) (i := 0) (j := 0) hc dX8_root_75 rfl rfl rfl ?_
      refine gf_X8_16 (q := 79) hc dX8_root_76 (k_43 hK) (r_43_6 hR) rfl ?_
      refine w_callV_Ri (q := 82) (st := [.int v3_7, .ref 46, .ref 43]) (args := [.ref 46]) (p := 43) hc (m_X8_orderOf_ hK hR (kB hK (k_46 hK))) dX8_root_79 ml_X8_249 cf_X8_orderOf_ iv_X8_orderOf_ (k_43 hK) (C := RX8) (T := TX8) (N := 45) rfl rfl (Nat.lt_of_succ_le (Nat.le_of_ble_eq_true rfl)) rfl rfl (Nat.le_of_ble_eq_true rfl) ⟨Nat.le_of_ble_eq_true rfl, Nat.le_of_ble_eq_true rfl⟩ rfl (fun q_12 => ?_)
      refine w_irem (q := 83) hc dX8_root_82  rfl ?_
      refine w_aload_n (q := 84) (i := 0) (j := 0) hc dX8_root_83 rfl rfl rfl ?_
      refine gf_X8_22 (q := 87) hc dX8_root_84 (k_43 hK) (r_43_8 hR) rfl ?_
      refine w_callV_Wv (q := 90) (st := []) (args := [.ref 46, .int (irem v3_7 q_12), .ref 48]) (p := 43) hc (m_X8_powers hK hR (kB hK (k_46 hK)) (kB hK (k_48 hK))) dX8_root_87 ml_X8_232 cf_X8_powers iv_X8_powers (k_43 hK) (C := RX8) (T := TX8) (N := 45) rfl rfl (Nat.lt_of_succ_le (Nat.le_of_ble_eq_true rfl)) rfl rfl (Nat.le_of_ble_eq_true rfl) ⟨Nat.le_of_ble_eq_true rfl, Nat.le_of_ble_eq_true rfl⟩ rfl (fun q_13 => ?_)
      refine w_aload_n (q := 91) (i := 0) (j := 0) hc dX8_root_90 rfl rfl rfl ?_
      refine gf_X8_22 (q := 94) hc dX8_root_91 (k_43 hK) (r_43_8 hR) rfl ?_
      refine w_aload_n (q := 95) (i := 0) (j := 0) hc dX8_root_94 rfl rfl rfl ?_
      refine gf_X8_19 (q := 98) hc dX8_root_95 (k_43 hK) (r_43_7 hR) rfl ?_
      refine w_callS_Rz (q := 101) (st := []) (args := [.ref 48, .ref 47]) hc (m_X8_areSame hK hR (kB hK (k_48 hK)) (kB hK (k_47 hK))) dX8_root_98 ml_X8_311 cf_X8_areSame st_X8_areSame rfl rfl (Nat.le_of_ble_eq_true rfl) ⟨Nat.le_of_ble_eq_true rfl, Nat.le_of_ble_eq_true rfl⟩ rfl (fun q_14 => ?_)
      refine w_ifeq (q := 104) (tgt := 107) hc dX8_root_101 rfl rfl ?_ ?_
      · refine w_iincB (q := 110) (i := 4) (j := 2) (lv' := fun v4_15 => [(4, .int v4_15), (0, .ref 43), (3, .int v3_7)]) hc dX8_root_107 rfl ci_1 (hN 4 rfl) (fun _ => rfl) rfl (fun v4_15 => ?_)
        refine w_goto (tgt := 49) hc dX8_root_110 rfl ?_
        refine w_sub [1, 2, 0] rfl ?_
        exact ih v4_15 q_13.1 q_13.2
      · refine w_iload (q := 106) (i := 4) (j := 2) hc dX8_root_104 rfl rfl ?_
        exact w_ireturn (v := v4_8) hc hq dX8_root_106 rfl rfl rfl
set_option maxRecDepth 100000 in
set_option maxHeartbeats 4000000 in
theorem m_X8_root {l : Launch} {K : KT} {R : MR} {rm : Nat} {a1 : Int64} {a3 : Int32} {I : MI} {L : ML} (hK0 : K = lK rm) (hR0 : R = lR rm) : MFg l yX8_root cX8_root 5 (some .int) 11 245 [.ref 43, .long a1, .int a3] K R I L anIW meW (f_X8_root a1 a3 I L) := by
  refine mf_of (plainFor_of_name (by decide)) (Nat.le_of_ble_eq_true rfl) ?_
  intro G hc _ hK1 hR1 hn hq
  have hK := hK1.trans hK0
  have hR := hR1.trans hR0
  have hN : ∀ i, Nat.blt i 5 = true → i < gnL G := fun i h => hn ▸ Nat.blt_eq.mp h
  unfold f_X8_root
  show WW G 0 [(0, .ref 43), (1, .long a1), (3, .int a3)] [] I L _
  refine w_aload_n (q := 1) (i := 0) (j := 0) hc dX8_root_0 rfl rfl rfl ?_
  refine w_aload_n (q := 2) (i := 0) (j := 0) hc dX8_root_1 rfl rfl rfl ?_
  refine w_aload_n (q := 3) (i := 0) (j := 0) hc dX8_root_2 rfl rfl rfl ?_
  refine w_lload_n (q := 4) (i := 1) (j := 1) hc dX8_root_3 rfl rfl rfl ?_
  refine w_aload_n (q := 5) (i := 0) (j := 0) hc dX8_root_4 rfl rfl rfl ?_
  refine gf_X8_19 (q := 8) hc dX8_root_5 (k_43 hK) (r_43_7 hR) rfl ?_
  refine w_callV_Wz (q := 11) (st := [.ref 43, .ref 43]) (args := [.long a1, .ref 47]) (p := 43) hc (m_X8_lies hK hR (kB hK (k_47 hK))) dX8_root_8 ml_X8_217 cf_X8_lies iv_X8_lies (k_43 hK) (C := RX8) (T := TX8) (N := 45) rfl rfl (Nat.lt_of_succ_le (Nat.le_of_ble_eq_true rfl)) rfl rfl (Nat.le_of_ble_eq_true rfl) ⟨Nat.le_of_ble_eq_true rfl, Nat.le_of_ble_eq_true rfl⟩ rfl (fun q_1 => ?_)
  refine w_join (fun j31_361 : Bool → Option (Int32 × Mm) => ∀ (s0_3 : Bool), WW G 31 [(0, .ref 43), (3, .int a3)] [.int (b2i s0_3), .ref 43, .ref 43] q_1.2.1 q_1.2.2 (j31_361 s0_3)) ?_ ?_
  · intro s0_3
    refine w_callV_Wi (q := 34) (st := [.ref 43]) (args := [.int (b2i s0_3)]) (p := 43) hc (m_X8_whySmall hK hR) dX8_root_31 ml_X8_299 cf_X8_whySmall iv_X8_whySmall (k_43 hK) (C := RX8) (T := TX8) (N := 45) rfl rfl (Nat.lt_of_succ_le (Nat.le_of_ble_eq_true rfl)) rfl rfl (Nat.le_of_ble_eq_true rfl) ⟨Nat.le_of_ble_eq_true rfl, Nat.le_of_ble_eq_true rfl⟩ rfl (fun q_4 => ?_)
    refine w_callV_Wz (q := 37) (st := []) (args := [.int q_4.1]) (p := 43) hc (m_X8_is hK hR) dX8_root_34 ml_X8_194 cf_X8_is iv_X8_is (k_43 hK) (C := RX8) (T := TX8) (N := 45) rfl rfl (Nat.lt_of_succ_le (Nat.le_of_ble_eq_true rfl)) rfl rfl (Nat.le_of_ble_eq_true rfl) ⟨Nat.le_of_ble_eq_true rfl, Nat.le_of_ble_eq_true rfl⟩ rfl (fun q_5 => ?_)
    refine w_ifne (q := 40) (tgt := 42) hc dX8_root_37 rfl rfl ?_ ?_
    · refine w_iconst (q := 41) hc dX8_root_40 ci_m1 rfl ?_
      exact w_ireturn (v := (-1)) hc hq dX8_root_41 rfl rfl rfl
    · refine w_aload_n (q := 43) (i := 0) (j := 0) hc dX8_root_42 rfl rfl rfl ?_
      refine w_callV_Wv (q := 46) (st := []) (args := []) (p := 43) hc (m_X8_laysAll hK hR) dX8_root_43 ml_X8_293 cf_X8_laysAll iv_X8_laysAll (k_43 hK) (C := RX8) (T := TX8) (N := 45) rfl rfl (Nat.lt_of_succ_le (Nat.le_of_ble_eq_true rfl)) rfl rfl (Nat.le_of_ble_eq_true rfl) ⟨Nat.le_of_ble_eq_true rfl, Nat.le_of_ble_eq_true rfl⟩ rfl (fun q_6 => ?_)
      refine w_iconst (q := 47) hc dX8_root_46 ci_0 rfl ?_
      refine w_istore (q := 49) (i := 4) (lv' := [(4, .int 0), (0, .ref 43), (3, .int a3)]) hc dX8_root_47 (hN 4 rfl) rfl rfl ?_
      refine w_sub [1, 2, 0] rfl ?_
      refine wl_X8_root_49 a3 hc hq hK hR hn _ ?_ FU 0 q_6.1 q_6.2
      intro I_16 L_17
      refine w_aload_n (q := 114) (i := 0) (j := 0) hc dX8_root_113 rfl rfl rfl ?_
      refine w_iconst (q := 115) hc dX8_root_114 ci_5 rfl ?_
      refine w_callV_Wi (q := 118) (st := []) (args := [.int 5]) (p := 43) hc (m_X8_refuse hK hR) dX8_root_115 ml_X8_266 cf_X8_refuse iv_X8_refuse (k_43 hK) (C := RX8) (T := TX8) (N := 45) rfl rfl (Nat.lt_of_succ_le (Nat.le_of_ble_eq_true rfl)) rfl rfl (Nat.le_of_ble_eq_true rfl) ⟨Nat.le_of_ble_eq_true rfl, Nat.le_of_ble_eq_true rfl⟩ rfl (fun q_18 => ?_)
      exact w_ireturn (v := q_18.1) hc hq dX8_root_118 rfl rfl rfl
  · intro j31_361 hj31_361
    refine w_join (fun j30_362 : Option (Int32 × Mm) => WW G 30 [(0, .ref 43), (3, .int a3)] [.ref 43, .ref 43] q_1.2.1 q_1.2.2 (j30_362)) ?_ ?_
    · refine w_iconst (q := 31) hc dX8_root_30 ci_1 rfl ?_
      exact hj31_361 true
    · intro j30_362 hj30_362
      refine w_ifeq (q := 14) (tgt := 30) hc dX8_root_11 rfl rfl ?_ ?_
      · refine w_sub [0, 2] rfl ?_
        exact hj30_362
      · refine w_iload_n (q := 15) (i := 3) (j := 2) hc dX8_root_14 rfl rfl rfl ?_
        refine w_i2l (q := 16) hc dX8_root_15  rfl ?_
        refine w_lconst (q := 17) hc dX8_root_16 cl_1 rfl ?_
        refine w_ldc2 (q := 20) hc dX8_root_17 kl_X8_230 rfl ?_
        refine w_callS_Rz (q := 23) (st := [.ref 43, .ref 43]) (args := [.long (Int32.toInt64 a3), .long 1, .long 1000]) hc (m_X8_isIn hK hR) dX8_root_20 ml_X8_114 cf_X8_isIn st_X8_isIn rfl rfl (Nat.le_of_ble_eq_true rfl) ⟨Nat.le_of_ble_eq_true rfl, Nat.le_of_ble_eq_true rfl⟩ rfl (fun q_2 => ?_)
        refine w_ifeq (q := 26) (tgt := 30) hc dX8_root_23 rfl rfl ?_ ?_
        · refine w_sub [0, 2] rfl ?_
          exact hj30_362
        · refine w_iconst (q := 27) hc dX8_root_26 ci_0 rfl ?_
          refine w_goto (tgt := 31) hc dX8_root_27 rfl ?_
          refine w_sub [0, 2] rfl ?_
          exact hj31_361 false
set_option maxRecDepth 100000 in
set_option maxHeartbeats 4000000 in
theorem wl_X8_slightest_22 {G : GT (Int32 × Mm)} {rm : Nat} (hc : Cx G cX8_slightest yX8_slightest.cls (some .int) 11 245) (hq : RetQ G anIW meW) (hK : gK G = lK rm) (hR : gR G = lR rm) (hn : gnL G = 4) (k0 : Int32 → MI → ML → Option (Int32 × Mm)) (hk0 : ∀ (v1_14 : Int32) (I_15 : MI) (L_16 : ML), WW G 75 [(0, .ref 43), (1, .int v1_14)] [] I_15 L_16 (k0 v1_14 I_15 L_16)) : ∀ (n : Nat) (v1_4 : Int32) (v2_5 : Int32) (I_6 : MI) (L_7 : ML), WW G 22 [(0, .ref 43), (1, .int v1_4), (2, .int v2_5)] [] I_6 L_7 (f_X8_slightest_22 k0 n v1_4 v2_5 I_6 L_7) := by
  have hN : ∀ i, Nat.blt i 4 = true → i < gnL G := fun i h => hn ▸ Nat.blt_eq.mp h
  intro n
  induction n with
  | zero => intros; exact w_none _ _ _
  | succ n ih =>
    intros v1_4 v2_5 I_6 L_7
    rw [f_X8_slightest_22]
    refine w_iload_n (q := 23) (i := 2) (j := 2) hc dX8_slightest_22 rfl rfl rfl ?_
    refine w_aload_n (q := 24) (i := 0) (j := 0) hc dX8_slightest_23 rfl rfl rfl ?_
    refine gf_X8_290 (q := 27) hc dX8_slightest_24 (k_43 hK) rfl ?_
    refine w_icmpge (q := 30) (tgt := 75) hc dX8_slightest_27 rfl rfl ?_ ?_
    · refine w_sub [0, 1] rfl ?_
      exact hk0 v1_4 I_6 L_7
    · refine w_aload_n (q := 31) (i := 0) (j := 0) hc dX8_slightest_30 rfl rfl rfl ?_
      refine w_iload_n (q := 32) (i := 2) (j := 2) hc dX8_slightest_31 rfl rfl rfl ?_
      refine w_aload_n (q := 33) (i := 0) (j := 0) hc dX8_slightest_32 rfl rfl rfl ?_
      refine gf_X8_16 (q := 36) hc dX8_slightest_33 (k_43 hK) (r_43_6 hR) rfl ?_
      refine w_callV_Wv (q := 39) (st := []) (args := [.int v2_5, .ref 46]) (p := 43) hc (m_X8_laysOne hK hR (kB hK (k_46 hK))) dX8_slightest_36 ml_X8_296 cf_X8_laysOne iv_X8_laysOne (k_43 hK) (C := RX8) (T := TX8) (N := 45) rfl rfl (Nat.lt_of_succ_le (Nat.le_of_ble_eq_true rfl)) rfl rfl (Nat.le_of_ble_eq_true rfl) ⟨Nat.le_of_ble_eq_true rfl, Nat.le_of_ble_eq_true rfl⟩ rfl (fun q_8 => ?_)
      refine w_aload_n (q := 40) (i := 0) (j := 0) hc dX8_slightest_39 rfl rfl rfl ?_
      refine gf_X8_118 (q := 43) hc dX8_slightest_40 (k_43 hK) rfl ?_
      refine w_aload_n (q := 44) (i := 0) (j := 0) hc dX8_slightest_43 rfl rfl rfl ?_
      refine w_aload_n (q := 45) (i := 0) (j := 0) hc dX8_slightest_44 rfl rfl rfl ?_
      refine gf_X8_16 (q := 48) hc dX8_slightest_45 (k_43 hK) (r_43_6 hR) rfl ?_
      refine w_callV_Ri (q := 51) (st := [.int (q_8.1 43 2)]) (args := [.ref 46]) (p := 43) hc (m_X8_staying hK hR (kB hK (k_46 hK))) dX8_slightest_48 ml_X8_251 cf_X8_staying iv_X8_staying (k_43 hK) (C := RX8) (T := TX8) (N := 45) rfl rfl (Nat.lt_of_succ_le (Nat.le_of_ble_eq_true rfl)) rfl rfl (Nat.le_of_ble_eq_true rfl) ⟨Nat.le_of_ble_eq_true rfl, Nat.le_of_ble_eq_true rfl⟩ rfl (fun q_9 => ?_)
      refine w_isub (q := 52) hc dX8_slightest_51  rfl ?_
      refine w_istore_nB (q := 53) (i := 3) (lv' := fun v3_10 => [(3, .int v3_10), (0, .ref 43), (1, .int v1_4), (2, .int v2_5)]) hc dX8_slightest_52 rfl (hN 3 rfl) (fun _ => rfl) rfl (fun v3_10 => ?_)
      refine w_iload_n (q := 54) (i := 1) (j := 2) hc dX8_slightest_53 rfl rfl rfl ?_
      refine w_iconst (q := 55) hc dX8_slightest_54 ci_m1 rfl ?_
      refine w_icmpeq (q := 58) (tgt := 63) hc dX8_slightest_55 rfl rfl ?_ ?_
      · refine w_iload_n (q := 64) (i := 3) (j := 0) hc dX8_slightest_63 rfl rfl rfl ?_
        refine w_goto (tgt := 68) hc dX8_slightest_64 rfl ?_
        refine w_istore_n (q := 69) (i := 1) (lv' := [(1, .int v3_10), (3, .int v3_10), (0, .ref 43), (2, .int v2_5)]) hc dX8_slightest_68 rfl (hN 1 rfl) rfl rfl ?_
        refine w_iincB (q := 72) (i := 2) (j := 3) (lv' := fun v2_11 => [(2, .int v2_11), (1, .int v3_10), (3, .int v3_10), (0, .ref 43)]) hc dX8_slightest_69 rfl ci_1 (hN 2 rfl) (fun _ => rfl) rfl (fun v2_11 => ?_)
        refine w_goto (tgt := 22) hc dX8_slightest_72 rfl ?_
        refine w_sub [3, 1, 0] rfl ?_
        exact ih v3_10 v2_11 q_8.1 q_8.2
      · refine w_iload_n (q := 59) (i := 3) (j := 0) hc dX8_slightest_58 rfl rfl rfl ?_
        refine w_iload_n (q := 60) (i := 1) (j := 2) hc dX8_slightest_59 rfl rfl rfl ?_
        refine w_icmpge (q := 63) (tgt := 67) hc dX8_slightest_60 rfl rfl ?_ ?_
        · refine w_iload_n (q := 68) (i := 1) (j := 2) hc dX8_slightest_67 rfl rfl rfl ?_
          refine w_istore_n (q := 69) (i := 1) (lv' := [(1, .int v1_4), (3, .int v3_10), (0, .ref 43), (2, .int v2_5)]) hc dX8_slightest_68 rfl (hN 1 rfl) rfl rfl ?_
          refine w_iincB (q := 72) (i := 2) (j := 3) (lv' := fun v2_12 => [(2, .int v2_12), (1, .int v1_4), (3, .int v3_10), (0, .ref 43)]) hc dX8_slightest_69 rfl ci_1 (hN 2 rfl) (fun _ => rfl) rfl (fun v2_12 => ?_)
          refine w_goto (tgt := 22) hc dX8_slightest_72 rfl ?_
          refine w_sub [3, 1, 0] rfl ?_
          exact ih v1_4 v2_12 q_8.1 q_8.2
        · refine w_iload_n (q := 64) (i := 3) (j := 0) hc dX8_slightest_63 rfl rfl rfl ?_
          refine w_goto (tgt := 68) hc dX8_slightest_64 rfl ?_
          refine w_istore_n (q := 69) (i := 1) (lv' := [(1, .int v3_10), (3, .int v3_10), (0, .ref 43), (2, .int v2_5)]) hc dX8_slightest_68 rfl (hN 1 rfl) rfl rfl ?_
          refine w_iincB (q := 72) (i := 2) (j := 3) (lv' := fun v2_13 => [(2, .int v2_13), (1, .int v3_10), (3, .int v3_10), (0, .ref 43)]) hc dX8_slightest_69 rfl ci_1 (hN 2 rfl) (fun _ => rfl) rfl (fun v2_13 => ?_)
          refine w_goto (tgt := 22) hc dX8_slightest_72 rfl ?_
          refine w_sub [3, 1, 0] rfl ?_
          exact ih v3_10 v2_13 q_8.1 q_8.2
set_option maxRecDepth 100000 in
set_option maxHeartbeats 4000000 in
theorem m_X8_slightest {l : Launch} {K : KT} {R : MR} {rm : Nat} {I : MI} {L : ML} (hK0 : K = lK rm) (hR0 : R = lR rm) : MFg l yX8_slightest cX8_slightest 4 (some .int) 11 245 [.ref 43] K R I L anIW meW (f_X8_slightest I L) := by
  refine mf_of (plainFor_of_name (by decide)) (Nat.le_of_ble_eq_true rfl) ?_
  intro G hc _ hK1 hR1 hn hq
  have hK := hK1.trans hK0
  have hR := hR1.trans hR0
  have hN : ∀ i, Nat.blt i 4 = true → i < gnL G := fun i h => hn ▸ Nat.blt_eq.mp h
  unfold f_X8_slightest
  show WW G 0 [(0, .ref 43)] [] I L _
  refine w_aload_n (q := 1) (i := 0) (j := 0) hc dX8_slightest_0 rfl rfl rfl ?_
  refine w_aload_n (q := 2) (i := 0) (j := 0) hc dX8_slightest_1 rfl rfl rfl ?_
  refine w_iconst (q := 3) hc dX8_slightest_2 ci_0 rfl ?_
  refine w_callV_Wi (q := 6) (st := [.ref 43]) (args := [.int 0]) (p := 43) hc (m_X8_whySmall hK hR) dX8_slightest_3 ml_X8_299 cf_X8_whySmall iv_X8_whySmall (k_43 hK) (C := RX8) (T := TX8) (N := 45) rfl rfl (Nat.lt_of_succ_le (Nat.le_of_ble_eq_true rfl)) rfl rfl (Nat.le_of_ble_eq_true rfl) ⟨Nat.le_of_ble_eq_true rfl, Nat.le_of_ble_eq_true rfl⟩ rfl (fun q_1 => ?_)
  refine w_callV_Wz (q := 9) (st := []) (args := [.int q_1.1]) (p := 43) hc (m_X8_is hK hR) dX8_slightest_6 ml_X8_194 cf_X8_is iv_X8_is (k_43 hK) (C := RX8) (T := TX8) (N := 45) rfl rfl (Nat.lt_of_succ_le (Nat.le_of_ble_eq_true rfl)) rfl rfl (Nat.le_of_ble_eq_true rfl) ⟨Nat.le_of_ble_eq_true rfl, Nat.le_of_ble_eq_true rfl⟩ rfl (fun q_2 => ?_)
  refine w_ifne (q := 12) (tgt := 14) hc dX8_slightest_9 rfl rfl ?_ ?_
  · refine w_iconst (q := 13) hc dX8_slightest_12 ci_m1 rfl ?_
    exact w_ireturn (v := (-1)) hc hq dX8_slightest_13 rfl rfl rfl
  · refine w_aload_n (q := 15) (i := 0) (j := 0) hc dX8_slightest_14 rfl rfl rfl ?_
    refine w_callV_Wv (q := 18) (st := []) (args := []) (p := 43) hc (m_X8_laysAll hK hR) dX8_slightest_15 ml_X8_293 cf_X8_laysAll iv_X8_laysAll (k_43 hK) (C := RX8) (T := TX8) (N := 45) rfl rfl (Nat.lt_of_succ_le (Nat.le_of_ble_eq_true rfl)) rfl rfl (Nat.le_of_ble_eq_true rfl) ⟨Nat.le_of_ble_eq_true rfl, Nat.le_of_ble_eq_true rfl⟩ rfl (fun q_3 => ?_)
    refine w_iconst (q := 19) hc dX8_slightest_18 ci_m1 rfl ?_
    refine w_istore_n (q := 20) (i := 1) (lv' := [(1, .int (-1)), (0, .ref 43)]) hc dX8_slightest_19 rfl (hN 1 rfl) rfl rfl ?_
    refine w_iconst (q := 21) hc dX8_slightest_20 ci_1 rfl ?_
    refine w_istore_n (q := 22) (i := 2) (lv' := [(2, .int 1), (1, .int (-1)), (0, .ref 43)]) hc dX8_slightest_21 rfl (hN 2 rfl) rfl rfl ?_
    refine w_sub [2, 1, 0] rfl ?_
    refine wl_X8_slightest_22 hc hq hK hR hn _ ?_ FU (-1) 1 q_3.1 q_3.2
    intro v1_14 I_15 L_16
    refine w_aload_n (q := 76) (i := 0) (j := 0) hc dX8_slightest_75 rfl rfl rfl ?_
    refine w_iload_n (q := 77) (i := 1) (j := 1) hc dX8_slightest_76 rfl rfl rfl ?_
    refine w_callV_Wi (q := 80) (st := []) (args := [.int v1_14]) (p := 43) hc (m_X8_there hK hR) dX8_slightest_77 ml_X8_272 cf_X8_there iv_X8_there (k_43 hK) (C := RX8) (T := TX8) (N := 45) rfl rfl (Nat.lt_of_succ_le (Nat.le_of_ble_eq_true rfl)) rfl rfl (Nat.le_of_ble_eq_true rfl) ⟨Nat.le_of_ble_eq_true rfl, Nat.le_of_ble_eq_true rfl⟩ rfl (fun q_17 => ?_)
    exact w_ireturn (v := q_17.1) hc hq dX8_slightest_80 rfl rfl rfl
set_option maxRecDepth 100000 in
set_option maxHeartbeats 4000000 in
theorem wl_X8_ofOrder_31 {G : GT (Int32 × Mm)} {rm : Nat} (v1_5 : Int32) (hc : Cx G cX8_ofOrder yX8_ofOrder.cls (some .int) 11 245) (hq : RetQ G anIW meW) (hK : gK G = lK rm) (hR : gR G = lR rm) (hn : gnL G = 4) (k0 : Int32 → MI → ML → Option (Int32 × Mm)) (hk0 : ∀ (v2_16 : Int32) (I_17 : MI) (L_18 : ML), WW G 74 [(0, .ref 43), (2, .int v2_16)] [] I_17 L_18 (k0 v2_16 I_17 L_18)) : ∀ (n : Nat) (v2_6 : Int32) (v3_7 : Int32) (I_8 : MI) (L_9 : ML), WW G 31 [(0, .ref 43), (1, .int v1_5), (2, .int v2_6), (3, .int v3_7)] [] I_8 L_9 (f_X8_ofOrder_31 v1_5 k0 n v2_6 v3_7 I_8 L_9) := by
  have hN : ∀ i, Nat.blt i 4 = true → i < gnL G := fun i h => hn ▸ Nat.blt_eq.mp h
  intro n
  induction n with
  | zero => intros; exact w_none _ _ _
  | succ n ih =>
    intros v2_6 v3_7 I_8 L_9
    rw [f_X8_ofOrder_31]
    refine w_iload_n (q := 32) (i := 3) (j := 3) hc dX8_ofOrder_31 rfl rfl rfl ?_
    refine w_aload_n (q := 33) (i := 0) (j := 0) hc dX8_ofOrder_32 rfl rfl rfl ?_
    refine gf_X8_290 (q := 36) hc dX8_ofOrder_33 (k_43 hK) rfl ?_
    refine w_icmpge (q := 39) (tgt := 74) hc dX8_ofOrder_36 rfl rfl ?_ ?_
    · refine w_sub [0, 2] rfl ?_
      exact hk0 v2_6 I_8 L_9
    · refine w_aload_n (q := 40) (i := 0) (j := 0) hc dX8_ofOrder_39 rfl rfl rfl ?_
      refine w_iload_n (q := 41) (i := 3) (j := 3) hc dX8_ofOrder_40 rfl rfl rfl ?_
      refine w_aload_n (q := 42) (i := 0) (j := 0) hc dX8_ofOrder_41 rfl rfl rfl ?_
      refine gf_X8_16 (q := 45) hc dX8_ofOrder_42 (k_43 hK) (r_43_6 hR) rfl ?_
      refine w_callV_Wv (q := 48) (st := []) (args := [.int v3_7, .ref 46]) (p := 43) hc (m_X8_laysOne hK hR (kB hK (k_46 hK))) dX8_ofOrder_45 ml_X8_296 cf_X8_laysOne iv_X8_laysOne (k_43 hK) (C := RX8) (T := TX8) (N := 45) rfl rfl (Nat.lt_of_succ_le (Nat.le_of_ble_eq_true rfl)) rfl rfl (Nat.le_of_ble_eq_true rfl) ⟨Nat.le_of_ble_eq_true rfl, Nat.le_of_ble_eq_true rfl⟩ rfl (fun q_10 => ?_)
      refine w_iload_n (q := 49) (i := 2) (j := 2) hc dX8_ofOrder_48 rfl rfl rfl ?_
      refine w_aload_n (q := 50) (i := 0) (j := 0) hc dX8_ofOrder_49 rfl rfl rfl ?_
      refine w_aload_n (q := 51) (i := 0) (j := 0) hc dX8_ofOrder_50 rfl rfl rfl ?_
      refine gf_X8_16 (q := 54) hc dX8_ofOrder_51 (k_43 hK) (r_43_6 hR) rfl ?_
      refine w_callV_Ri (q := 57) (st := [.int v2_6]) (args := [.ref 46]) (p := 43) hc (m_X8_orderOf_ hK hR (kB hK (k_46 hK))) dX8_ofOrder_54 ml_X8_249 cf_X8_orderOf_ iv_X8_orderOf_ (k_43 hK) (C := RX8) (T := TX8) (N := 45) rfl rfl (Nat.lt_of_succ_le (Nat.le_of_ble_eq_true rfl)) rfl rfl (Nat.le_of_ble_eq_true rfl) ⟨Nat.le_of_ble_eq_true rfl, Nat.le_of_ble_eq_true rfl⟩ rfl (fun q_11 => ?_)
      refine w_iload_n (q := 58) (i := 1) (j := 1) hc dX8_ofOrder_57 rfl rfl rfl ?_
      refine w_icmpne (q := 61) (tgt := 65) hc dX8_ofOrder_58 rfl rfl ?_ ?_
      · refine w_iconst (q := 62) hc dX8_ofOrder_61 ci_1 rfl ?_
        refine w_goto (tgt := 66) hc dX8_ofOrder_62 rfl ?_
        refine w_iadd (q := 67) hc dX8_ofOrder_66  rfl ?_
        refine w_istore_nB (q := 68) (i := 2) (lv' := fun v2_14 => [(2, .int v2_14), (0, .ref 43), (1, .int v1_5), (3, .int v3_7)]) hc dX8_ofOrder_67 rfl (hN 2 rfl) (fun _ => rfl) rfl (fun v2_14 => ?_)
        refine w_iincB (q := 71) (i := 3) (j := 3) (lv' := fun v3_15 => [(3, .int v3_15), (2, .int v2_14), (0, .ref 43), (1, .int v1_5)]) hc dX8_ofOrder_68 rfl ci_1 (hN 3 rfl) (fun _ => rfl) rfl (fun v3_15 => ?_)
        refine w_goto (tgt := 31) hc dX8_ofOrder_71 rfl ?_
        refine w_sub [2, 3, 1, 0] rfl ?_
        exact ih v2_14 v3_15 q_10.1 q_10.2
      · refine w_iconst (q := 66) hc dX8_ofOrder_65 ci_0 rfl ?_
        refine w_iadd (q := 67) hc dX8_ofOrder_66  rfl ?_
        refine w_istore_nB (q := 68) (i := 2) (lv' := fun v2_12 => [(2, .int v2_12), (0, .ref 43), (1, .int v1_5), (3, .int v3_7)]) hc dX8_ofOrder_67 rfl (hN 2 rfl) (fun _ => rfl) rfl (fun v2_12 => ?_)
        refine w_iincB (q := 71) (i := 3) (j := 3) (lv' := fun v3_13 => [(3, .int v3_13), (2, .int v2_12), (0, .ref 43), (1, .int v1_5)]) hc dX8_ofOrder_68 rfl ci_1 (hN 3 rfl) (fun _ => rfl) rfl (fun v3_13 => ?_)
        refine w_goto (tgt := 31) hc dX8_ofOrder_71 rfl ?_
        refine w_sub [2, 3, 1, 0] rfl ?_
        exact ih v2_12 v3_13 q_10.1 q_10.2
set_option maxRecDepth 100000 in
set_option maxHeartbeats 4000000 in
theorem m_X8_ofOrder {l : Launch} {K : KT} {R : MR} {rm : Nat} {a1 : Int32} {I : MI} {L : ML} (hK0 : K = lK rm) (hR0 : R = lR rm) : MFg l yX8_ofOrder cX8_ofOrder 4 (some .int) 11 245 [.ref 43, .int a1] K R I L anIW meW (f_X8_ofOrder a1 I L) := by
  refine mf_of (plainFor_of_name (by decide)) (Nat.le_of_ble_eq_true rfl) ?_
  intro G hc _ hK1 hR1 hn hq
  have hK := hK1.trans hK0
  have hR := hR1.trans hR0
  have hN : ∀ i, Nat.blt i 4 = true → i < gnL G := fun i h => hn ▸ Nat.blt_eq.mp h
  unfold f_X8_ofOrder
  show WW G 0 [(0, .ref 43), (1, .int a1)] [] I L _
  refine w_aload_n (q := 1) (i := 0) (j := 0) hc dX8_ofOrder_0 rfl rfl rfl ?_
  refine w_aload_n (q := 2) (i := 0) (j := 0) hc dX8_ofOrder_1 rfl rfl rfl ?_
  refine w_iload_n (q := 3) (i := 1) (j := 1) hc dX8_ofOrder_2 rfl rfl rfl ?_
  refine w_iconst (q := 4) hc dX8_ofOrder_3 ci_1 rfl ?_
  refine w_join (fun j12_367 : Bool → Option (Int32 × Mm) => ∀ (s0_1 : Bool), WW G 12 [(0, .ref 43), (1, .int a1)] [.int (b2i s0_1), .ref 43, .ref 43] I L (j12_367 s0_1)) ?_ ?_
  · intro s0_1
    refine w_callV_Wi (q := 15) (st := [.ref 43]) (args := [.int (b2i s0_1)]) (p := 43) hc (m_X8_whySmall hK hR) dX8_ofOrder_12 ml_X8_299 cf_X8_whySmall iv_X8_whySmall (k_43 hK) (C := RX8) (T := TX8) (N := 45) rfl rfl (Nat.lt_of_succ_le (Nat.le_of_ble_eq_true rfl)) rfl rfl (Nat.le_of_ble_eq_true rfl) ⟨Nat.le_of_ble_eq_true rfl, Nat.le_of_ble_eq_true rfl⟩ rfl (fun q_2 => ?_)
    refine w_callV_Wz (q := 18) (st := []) (args := [.int q_2.1]) (p := 43) hc (m_X8_is hK hR) dX8_ofOrder_15 ml_X8_194 cf_X8_is iv_X8_is (k_43 hK) (C := RX8) (T := TX8) (N := 45) rfl rfl (Nat.lt_of_succ_le (Nat.le_of_ble_eq_true rfl)) rfl rfl (Nat.le_of_ble_eq_true rfl) ⟨Nat.le_of_ble_eq_true rfl, Nat.le_of_ble_eq_true rfl⟩ rfl (fun q_3 => ?_)
    refine w_ifne (q := 21) (tgt := 23) hc dX8_ofOrder_18 rfl rfl ?_ ?_
    · refine w_iconst (q := 22) hc dX8_ofOrder_21 ci_m1 rfl ?_
      exact w_ireturn (v := (-1)) hc hq dX8_ofOrder_22 rfl rfl rfl
    · refine w_aload_n (q := 24) (i := 0) (j := 0) hc dX8_ofOrder_23 rfl rfl rfl ?_
      refine w_callV_Wv (q := 27) (st := []) (args := []) (p := 43) hc (m_X8_laysAll hK hR) dX8_ofOrder_24 ml_X8_293 cf_X8_laysAll iv_X8_laysAll (k_43 hK) (C := RX8) (T := TX8) (N := 45) rfl rfl (Nat.lt_of_succ_le (Nat.le_of_ble_eq_true rfl)) rfl rfl (Nat.le_of_ble_eq_true rfl) ⟨Nat.le_of_ble_eq_true rfl, Nat.le_of_ble_eq_true rfl⟩ rfl (fun q_4 => ?_)
      refine w_iconst (q := 28) hc dX8_ofOrder_27 ci_0 rfl ?_
      refine w_istore_n (q := 29) (i := 2) (lv' := [(2, .int 0), (0, .ref 43), (1, .int a1)]) hc dX8_ofOrder_28 rfl (hN 2 rfl) rfl rfl ?_
      refine w_iconst (q := 30) hc dX8_ofOrder_29 ci_0 rfl ?_
      refine w_istore_n (q := 31) (i := 3) (lv' := [(3, .int 0), (2, .int 0), (0, .ref 43), (1, .int a1)]) hc dX8_ofOrder_30 rfl (hN 3 rfl) rfl rfl ?_
      refine w_sub [2, 3, 1, 0] rfl ?_
      refine wl_X8_ofOrder_31 a1 hc hq hK hR hn _ ?_ FU 0 0 q_4.1 q_4.2
      intro v2_16 I_17 L_18
      refine w_iload_n (q := 75) (i := 2) (j := 1) hc dX8_ofOrder_74 rfl rfl rfl ?_
      refine w_ifne (q := 78) (tgt := 86) hc dX8_ofOrder_75 rfl rfl ?_ ?_
      · refine w_aload_n (q := 79) (i := 0) (j := 0) hc dX8_ofOrder_78 rfl rfl rfl ?_
        refine w_iconst (q := 80) hc dX8_ofOrder_79 ci_5 rfl ?_
        refine w_callV_Wi (q := 83) (st := []) (args := [.int 5]) (p := 43) hc (m_X8_refuse hK hR) dX8_ofOrder_80 ml_X8_266 cf_X8_refuse iv_X8_refuse (k_43 hK) (C := RX8) (T := TX8) (N := 45) rfl rfl (Nat.lt_of_succ_le (Nat.le_of_ble_eq_true rfl)) rfl rfl (Nat.le_of_ble_eq_true rfl) ⟨Nat.le_of_ble_eq_true rfl, Nat.le_of_ble_eq_true rfl⟩ rfl (fun q_19 => ?_)
        refine w_goto (tgt := 87) hc dX8_ofOrder_83 rfl ?_
        exact w_ireturn (v := q_19.1) hc hq dX8_ofOrder_87 rfl rfl rfl
      · refine w_iload_n (q := 87) (i := 2) (j := 1) hc dX8_ofOrder_86 rfl rfl rfl ?_
        exact w_ireturn (v := v2_16) hc hq dX8_ofOrder_87 rfl rfl rfl
  · intro j12_367 hj12_367
    refine w_icmplt (q := 7) (tgt := 11) hc dX8_ofOrder_4 rfl rfl ?_ ?_
    · refine w_iconst (q := 12) hc dX8_ofOrder_11 ci_1 rfl ?_
      exact hj12_367 true
    · refine w_iconst (q := 8) hc dX8_ofOrder_7 ci_0 rfl ?_
      refine w_goto (tgt := 12) hc dX8_ofOrder_8 rfl ?_
      exact hj12_367 false
set_option maxRecDepth 100000 in
set_option maxHeartbeats 4000000 in
theorem m_X8_turn {l : Launch} {K : KT} {R : MR} {rm : Nat} {a1 : Int32} {I : MI} {L : ML} (hK0 : K = lK rm) (hR0 : R = lR rm) : MFg l yX8_turn cX8_turn 2 (some .int) 3 68 [.ref 43, .int a1] K R I L anIW meW (f_X8_turn a1 I L) := by
  refine mf_of (plainFor_of_name (by decide)) (Nat.le_of_ble_eq_true rfl) ?_
  intro G hc _ hK1 hR1 hn hq
  have hK := hK1.trans hK0
  have hR := hR1.trans hR0
  have hN : ∀ i, Nat.blt i 2 = true → i < gnL G := fun i h => hn ▸ Nat.blt_eq.mp h
  unfold f_X8_turn
  show WW G 0 [(0, .ref 43), (1, .int a1)] [] I L _
  refine w_aload_n (q := 1) (i := 0) (j := 0) hc dX8_turn_0 rfl rfl rfl ?_
  refine w_aload_n (q := 2) (i := 0) (j := 0) hc dX8_turn_1 rfl rfl rfl ?_
  refine w_iload_n (q := 3) (i := 1) (j := 1) hc dX8_turn_2 rfl rfl rfl ?_
  refine w_callV_Rz (q := 6) (st := [.ref 43]) (args := [.int a1]) (p := 43) hc (m_X8_isStep hK hR) dX8_turn_3 ml_X8_205 cf_X8_isStep iv_X8_isStep (k_43 hK) (C := RX8) (T := TX8) (N := 45) rfl rfl (Nat.lt_of_succ_le (Nat.le_of_ble_eq_true rfl)) rfl rfl (Nat.le_of_ble_eq_true rfl) ⟨Nat.le_of_ble_eq_true rfl, Nat.le_of_ble_eq_true rfl⟩ rfl (fun q_1 => ?_)
  refine w_join (fun j14_370 : Int32 → Option (Int32 × Mm) => ∀ (s0_2 : Int32), WW G 14 [(0, .ref 43), (1, .int a1)] [.int s0_2, .ref 43] I L (j14_370 s0_2)) ?_ ?_
  · intro s0_2
    refine w_callV_Wz (q := 17) (st := []) (args := [.int s0_2]) (p := 43) hc (m_X8_is hK hR) dX8_turn_14 ml_X8_194 cf_X8_is iv_X8_is (k_43 hK) (C := RX8) (T := TX8) (N := 45) rfl rfl (Nat.lt_of_succ_le (Nat.le_of_ble_eq_true rfl)) rfl rfl (Nat.le_of_ble_eq_true rfl) ⟨Nat.le_of_ble_eq_true rfl, Nat.le_of_ble_eq_true rfl⟩ rfl (fun q_3 => ?_)
    refine w_ifne (q := 20) (tgt := 22) hc dX8_turn_17 rfl rfl ?_ ?_
    · refine w_iconst (q := 21) hc dX8_turn_20 ci_m1 rfl ?_
      exact w_ireturn (v := (-1)) hc hq dX8_turn_21 rfl rfl rfl
    · refine w_aload_n (q := 23) (i := 0) (j := 0) hc dX8_turn_22 rfl rfl rfl ?_
      refine w_callV_Wv (q := 26) (st := []) (args := []) (p := 43) hc (m_X8_remembers hK hR) dX8_turn_23 ml_X8_387 cf_X8_remembers iv_X8_remembers (k_43 hK) (C := RX8) (T := TX8) (N := 45) rfl rfl (Nat.lt_of_succ_le (Nat.le_of_ble_eq_true rfl)) rfl rfl (Nat.le_of_ble_eq_true rfl) ⟨Nat.le_of_ble_eq_true rfl, Nat.le_of_ble_eq_true rfl⟩ rfl (fun q_4 => ?_)
      refine w_aload_n (q := 27) (i := 0) (j := 0) hc dX8_turn_26 rfl rfl rfl ?_
      refine w_aload_n (q := 28) (i := 0) (j := 0) hc dX8_turn_27 rfl rfl rfl ?_
      refine gf_X8_16 (q := 31) hc dX8_turn_28 (k_43 hK) (r_43_6 hR) rfl ?_
      refine w_callV_Wv (q := 34) (st := []) (args := [.ref 46]) (p := 43) hc (m_X8_laysStand hK hR (kB hK (k_46 hK))) dX8_turn_31 ml_X8_198 cf_X8_laysStand iv_X8_laysStand (k_43 hK) (C := RX8) (T := TX8) (N := 45) rfl rfl (Nat.lt_of_succ_le (Nat.le_of_ble_eq_true rfl)) rfl rfl (Nat.le_of_ble_eq_true rfl) ⟨Nat.le_of_ble_eq_true rfl, Nat.le_of_ble_eq_true rfl⟩ rfl (fun q_5 => ?_)
      refine w_aload_n (q := 35) (i := 0) (j := 0) hc dX8_turn_34 rfl rfl rfl ?_
      refine w_iload_n (q := 36) (i := 1) (j := 1) hc dX8_turn_35 rfl rfl rfl ?_
      refine w_aload_n (q := 37) (i := 0) (j := 0) hc dX8_turn_36 rfl rfl rfl ?_
      refine gf_X8_19 (q := 40) hc dX8_turn_37 (k_43 hK) (r_43_7 hR) rfl ?_
      refine w_callV_Wv (q := 43) (st := []) (args := [.int a1, .ref 47]) (p := 43) hc (m_X8_laysStep hK hR (kB hK (k_47 hK))) dX8_turn_40 ml_X8_210 cf_X8_laysStep iv_X8_laysStep (k_43 hK) (C := RX8) (T := TX8) (N := 45) rfl rfl (Nat.lt_of_succ_le (Nat.le_of_ble_eq_true rfl)) rfl rfl (Nat.le_of_ble_eq_true rfl) ⟨Nat.le_of_ble_eq_true rfl, Nat.le_of_ble_eq_true rfl⟩ rfl (fun q_6 => ?_)
      refine w_aload_n (q := 44) (i := 0) (j := 0) hc dX8_turn_43 rfl rfl rfl ?_
      refine gf_X8_16 (q := 47) hc dX8_turn_44 (k_43 hK) (r_43_6 hR) rfl ?_
      refine w_aload_n (q := 48) (i := 0) (j := 0) hc dX8_turn_47 rfl rfl rfl ?_
      refine gf_X8_19 (q := 51) hc dX8_turn_48 (k_43 hK) (r_43_7 hR) rfl ?_
      refine w_aload_n (q := 52) (i := 0) (j := 0) hc dX8_turn_51 rfl rfl rfl ?_
      refine gf_X8_22 (q := 55) hc dX8_turn_52 (k_43 hK) (r_43_8 hR) rfl ?_
      refine w_callS_Wv (q := 58) (st := []) (args := [.ref 46, .ref 47, .ref 48]) hc (m_X8_makes hK hR (kB hK (k_46 hK)) (kB hK (k_47 hK)) (kB hK (k_48 hK))) dX8_turn_55 ml_X8_138 cf_X8_makes st_X8_makes rfl rfl (Nat.le_of_ble_eq_true rfl) ⟨Nat.le_of_ble_eq_true rfl, Nat.le_of_ble_eq_true rfl⟩ rfl (fun q_7 => ?_)
      refine w_aload_n (q := 59) (i := 0) (j := 0) hc dX8_turn_58 rfl rfl rfl ?_
      refine gf_X8_22 (q := 62) hc dX8_turn_59 (k_43 hK) (r_43_8 hR) rfl ?_
      refine w_iconst (q := 63) hc dX8_turn_62 ci_0 rfl ?_
      refine w_aload_n (q := 64) (i := 0) (j := 0) hc dX8_turn_63 rfl rfl rfl ?_
      refine gf_X8_7 (q := 67) hc dX8_turn_64 (k_43 hK) (r_43_4 hR) rfl ?_
      refine w_iconst (q := 68) hc dX8_turn_67 ci_1 rfl ?_
      refine w_callS_Wv (q := 71) (st := []) (args := [.ref 48, .int 0, .ref 44, .int 1]) hc (m_X8_copies hK hR (kB hK (k_48 hK)) (kB hK (k_44 hK))) dX8_turn_68 ml_X8_100 cf_X8_copies st_X8_copies rfl rfl (Nat.le_of_ble_eq_true rfl) ⟨Nat.le_of_ble_eq_true rfl, Nat.le_of_ble_eq_true rfl⟩ rfl (fun q_8 => ?_)
      refine w_aload_n (q := 72) (i := 0) (j := 0) hc dX8_turn_71 rfl rfl rfl ?_
      refine w_aload_n (q := 73) (i := 0) (j := 0) hc dX8_turn_72 rfl rfl rfl ?_
      refine gf_X8_22 (q := 76) hc dX8_turn_73 (k_43 hK) (r_43_8 hR) rfl ?_
      refine w_callV_Ri (q := 79) (st := []) (args := [.ref 48]) (p := 43) hc (m_X8_staying hK hR (kB hK (k_48 hK))) dX8_turn_76 ml_X8_251 cf_X8_staying iv_X8_staying (k_43 hK) (C := RX8) (T := TX8) (N := 45) rfl rfl (Nat.lt_of_succ_le (Nat.le_of_ble_eq_true rfl)) rfl rfl (Nat.le_of_ble_eq_true rfl) ⟨Nat.le_of_ble_eq_true rfl, Nat.le_of_ble_eq_true rfl⟩ rfl (fun q_9 => ?_)
      exact w_ireturn (v := q_9) hc hq dX8_turn_79 rfl rfl rfl
  · intro j14_370 hj14_370
    refine w_ifeq (q := 9) (tgt := 13) hc dX8_turn_6 rfl rfl ?_ ?_
    · refine w_iconst (q := 14) hc dX8_turn_13 ci_2 rfl ?_
      exact hj14_370 2
    · refine w_iconst (q := 10) hc dX8_turn_9 ci_0 rfl ?_
      refine w_goto (tgt := 14) hc dX8_turn_10 rfl ?_
      exact hj14_370 0
set_option maxRecDepth 100000 in
set_option maxHeartbeats 4000000 in
theorem m_X8_place {l : Launch} {K : KT} {R : MR} {rm : Nat} {a1 : Int64} {I : MI} {L : ML} (hK0 : K = lK rm) (hR0 : R = lR rm) : MFg l yX8_place cX8_place 4 (some .int) 9 206 [.ref 43, .long a1] K R I L anIW meW (f_X8_place a1 I L) := by
  refine mf_of (plainFor_of_name (by decide)) (Nat.le_of_ble_eq_true rfl) ?_
  intro G hc _ hK1 hR1 hn hq
  have hK := hK1.trans hK0
  have hR := hR1.trans hR0
  have hN : ∀ i, Nat.blt i 4 = true → i < gnL G := fun i h => hn ▸ Nat.blt_eq.mp h
  unfold f_X8_place
  show WW G 0 [(0, .ref 43), (1, .long a1)] [] I L _
  refine w_aload_n (q := 1) (i := 0) (j := 0) hc dX8_place_0 rfl rfl rfl ?_
  refine w_lload_n (q := 2) (i := 1) (j := 1) hc dX8_place_1 rfl rfl rfl ?_
  refine w_aload_n (q := 3) (i := 0) (j := 0) hc dX8_place_2 rfl rfl rfl ?_
  refine gf_X8_16 (q := 6) hc dX8_place_3 (k_43 hK) (r_43_6 hR) rfl ?_
  refine w_callV_Wz (q := 9) (st := []) (args := [.long a1, .ref 46]) (p := 43) hc (m_X8_lies hK hR (kB hK (k_46 hK))) dX8_place_6 ml_X8_217 cf_X8_lies iv_X8_lies (k_43 hK) (C := RX8) (T := TX8) (N := 45) rfl rfl (Nat.lt_of_succ_le (Nat.le_of_ble_eq_true rfl)) rfl rfl (Nat.le_of_ble_eq_true rfl) ⟨Nat.le_of_ble_eq_true rfl, Nat.le_of_ble_eq_true rfl⟩ rfl (fun q_1 => ?_)
  refine w_istore_nB (q := 10) (i := 3) (lv' := fun v3_2 => [(3, .int v3_2), (0, .ref 43), (1, .long a1)]) hc dX8_place_9 rfl (hN 3 rfl) (fun _ => rfl) rfl (fun v3_2 => ?_)
  refine w_aload_n (q := 11) (i := 0) (j := 1) hc dX8_place_10 rfl rfl rfl ?_
  refine w_aload_n (q := 12) (i := 0) (j := 1) hc dX8_place_11 rfl rfl rfl ?_
  refine gf_X8_19 (q := 15) hc dX8_place_12 (k_43 hK) (r_43_7 hR) rfl ?_
  refine w_callV_Wv (q := 18) (st := []) (args := [.ref 47]) (p := 43) hc (m_X8_laysStand hK hR (kB hK (k_47 hK))) dX8_place_15 ml_X8_198 cf_X8_laysStand iv_X8_laysStand (k_43 hK) (C := RX8) (T := TX8) (N := 45) rfl rfl (Nat.lt_of_succ_le (Nat.le_of_ble_eq_true rfl)) rfl rfl (Nat.le_of_ble_eq_true rfl) ⟨Nat.le_of_ble_eq_true rfl, Nat.le_of_ble_eq_true rfl⟩ rfl (fun q_3 => ?_)
  refine w_aload_n (q := 19) (i := 0) (j := 1) hc dX8_place_18 rfl rfl rfl ?_
  refine w_iload_n (q := 20) (i := 3) (j := 0) hc dX8_place_19 rfl rfl rfl ?_
  refine w_join (fun j46_371 : Int32 → Option (Int32 × Mm) => ∀ (s0_5 : Int32), WW G 46 [(0, .ref 43)] [.int s0_5, .ref 43] q_3.1 q_3.2 (j46_371 s0_5)) ?_ ?_
  · intro s0_5
    refine w_callV_Wz (q := 49) (st := []) (args := [.int s0_5]) (p := 43) hc (m_X8_is hK hR) dX8_place_46 ml_X8_194 cf_X8_is iv_X8_is (k_43 hK) (C := RX8) (T := TX8) (N := 45) rfl rfl (Nat.lt_of_succ_le (Nat.le_of_ble_eq_true rfl)) rfl rfl (Nat.le_of_ble_eq_true rfl) ⟨Nat.le_of_ble_eq_true rfl, Nat.le_of_ble_eq_true rfl⟩ rfl (fun q_6 => ?_)
    refine w_ifne (q := 52) (tgt := 54) hc dX8_place_49 rfl rfl ?_ ?_
    · refine w_iconst (q := 53) hc dX8_place_52 ci_m1 rfl ?_
      exact w_ireturn (v := (-1)) hc hq dX8_place_53 rfl rfl rfl
    · refine w_aload_n (q := 55) (i := 0) (j := 0) hc dX8_place_54 rfl rfl rfl ?_
      refine w_callV_Wv (q := 58) (st := []) (args := []) (p := 43) hc (m_X8_remembers hK hR) dX8_place_55 ml_X8_387 cf_X8_remembers iv_X8_remembers (k_43 hK) (C := RX8) (T := TX8) (N := 45) rfl rfl (Nat.lt_of_succ_le (Nat.le_of_ble_eq_true rfl)) rfl rfl (Nat.le_of_ble_eq_true rfl) ⟨Nat.le_of_ble_eq_true rfl, Nat.le_of_ble_eq_true rfl⟩ rfl (fun q_7 => ?_)
      refine w_aload_n (q := 59) (i := 0) (j := 0) hc dX8_place_58 rfl rfl rfl ?_
      refine gf_X8_16 (q := 62) hc dX8_place_59 (k_43 hK) (r_43_6 hR) rfl ?_
      refine w_iconst (q := 63) hc dX8_place_62 ci_0 rfl ?_
      refine w_aload_n (q := 64) (i := 0) (j := 0) hc dX8_place_63 rfl rfl rfl ?_
      refine gf_X8_7 (q := 67) hc dX8_place_64 (k_43 hK) (r_43_4 hR) rfl ?_
      refine w_iconst (q := 68) hc dX8_place_67 ci_1 rfl ?_
      refine w_callS_Wv (q := 71) (st := []) (args := [.ref 46, .int 0, .ref 44, .int 1]) hc (m_X8_copies hK hR (kB hK (k_46 hK)) (kB hK (k_44 hK))) dX8_place_68 ml_X8_100 cf_X8_copies st_X8_copies rfl rfl (Nat.le_of_ble_eq_true rfl) ⟨Nat.le_of_ble_eq_true rfl, Nat.le_of_ble_eq_true rfl⟩ rfl (fun q_8 => ?_)
      refine w_aload_n (q := 72) (i := 0) (j := 0) hc dX8_place_71 rfl rfl rfl ?_
      refine w_aload_n (q := 73) (i := 0) (j := 0) hc dX8_place_72 rfl rfl rfl ?_
      refine gf_X8_16 (q := 76) hc dX8_place_73 (k_43 hK) (r_43_6 hR) rfl ?_
      refine w_callV_Wi (q := 79) (st := []) (args := [.ref 46]) (p := 43) hc (m_X8_followedOf hK hR (kB hK (k_46 hK))) dX8_place_76 ml_X8_278 cf_X8_followedOf iv_X8_followedOf (k_43 hK) (C := RX8) (T := TX8) (N := 45) rfl rfl (Nat.lt_of_succ_le (Nat.le_of_ble_eq_true rfl)) rfl rfl (Nat.le_of_ble_eq_true rfl) ⟨Nat.le_of_ble_eq_true rfl, Nat.le_of_ble_eq_true rfl⟩ rfl (fun q_9 => ?_)
      exact w_ireturn (v := q_9.1) hc hq dX8_place_79 rfl rfl rfl
  · intro j46_371 hj46_371
    refine w_ifne (q := 23) (tgt := 27) hc dX8_place_20 rfl rfl ?_ ?_
    · refine w_iconst (q := 24) hc dX8_place_23 ci_1 rfl ?_
      refine w_goto (tgt := 46) hc dX8_place_24 rfl ?_
      refine w_sub [1] rfl ?_
      exact hj46_371 1
    · refine w_aload_n (q := 28) (i := 0) (j := 1) hc dX8_place_27 rfl rfl rfl ?_
      refine gf_X8_16 (q := 31) hc dX8_place_28 (k_43 hK) (r_43_6 hR) rfl ?_
      refine w_aload_n (q := 32) (i := 0) (j := 1) hc dX8_place_31 rfl rfl rfl ?_
      refine gf_X8_19 (q := 35) hc dX8_place_32 (k_43 hK) (r_43_7 hR) rfl ?_
      refine w_callS_Rz (q := 38) (st := [.ref 43]) (args := [.ref 46, .ref 47]) hc (m_X8_areSame hK hR (kB hK (k_46 hK)) (kB hK (k_47 hK))) dX8_place_35 ml_X8_311 cf_X8_areSame st_X8_areSame rfl rfl (Nat.le_of_ble_eq_true rfl) ⟨Nat.le_of_ble_eq_true rfl, Nat.le_of_ble_eq_true rfl⟩ rfl (fun q_4 => ?_)
      refine w_ifeq (q := 41) (tgt := 45) hc dX8_place_38 rfl rfl ?_ ?_
      · refine w_iconst (q := 46) hc dX8_place_45 ci_0 rfl ?_
        refine w_sub [1] rfl ?_
        exact hj46_371 0
      · refine w_iconst (q := 42) hc dX8_place_41 ci_4 rfl ?_
        refine w_goto (tgt := 46) hc dX8_place_42 rfl ?_
        refine w_sub [1] rfl ?_
        exact hj46_371 4
set_option maxRecDepth 100000 in
set_option maxHeartbeats 4000000 in
theorem m_X8_home {l : Launch} {K : KT} {R : MR} {rm : Nat} {I : MI} {L : ML} (hK0 : K = lK rm) (hR0 : R = lR rm) : MFg l yX8_home cX8_home 1 (some .int) 2 45 [.ref 43] K R I L anIW meW (f_X8_home I L) := by
  refine mf_of (plainFor_of_name (by decide)) (Nat.le_of_ble_eq_true rfl) ?_
  intro G hc _ hK1 hR1 hn hq
  have hK := hK1.trans hK0
  have hR := hR1.trans hR0
  have hN : ∀ i, Nat.blt i 1 = true → i < gnL G := fun i h => hn ▸ Nat.blt_eq.mp h
  unfold f_X8_home
  show WW G 0 [(0, .ref 43)] [] I L _
  refine w_aload_n (q := 1) (i := 0) (j := 0) hc dX8_home_0 rfl rfl rfl ?_
  refine w_aload_n (q := 2) (i := 0) (j := 0) hc dX8_home_1 rfl rfl rfl ?_
  refine gf_X8_16 (q := 5) hc dX8_home_2 (k_43 hK) (r_43_6 hR) rfl ?_
  refine w_callV_Wv (q := 8) (st := []) (args := [.ref 46]) (p := 43) hc (m_X8_laysStand hK hR (kB hK (k_46 hK))) dX8_home_5 ml_X8_198 cf_X8_laysStand iv_X8_laysStand (k_43 hK) (C := RX8) (T := TX8) (N := 45) rfl rfl (Nat.lt_of_succ_le (Nat.le_of_ble_eq_true rfl)) rfl rfl (Nat.le_of_ble_eq_true rfl) ⟨Nat.le_of_ble_eq_true rfl, Nat.le_of_ble_eq_true rfl⟩ rfl (fun q_1 => ?_)
  refine w_aload_n (q := 9) (i := 0) (j := 0) hc dX8_home_8 rfl rfl rfl ?_
  refine w_aload_n (q := 10) (i := 0) (j := 0) hc dX8_home_9 rfl rfl rfl ?_
  refine gf_X8_118 (q := 13) hc dX8_home_10 (k_43 hK) rfl ?_
  refine w_join (fun j35_372 : Int32 → Option (Int32 × Mm) => ∀ (s0_3 : Int32), WW G 35 [(0, .ref 43)] [.int s0_3, .ref 43] q_1.1 q_1.2 (j35_372 s0_3)) ?_ ?_
  · intro s0_3
    refine w_callV_Wz (q := 38) (st := []) (args := [.int s0_3]) (p := 43) hc (m_X8_is hK hR) dX8_home_35 ml_X8_194 cf_X8_is iv_X8_is (k_43 hK) (C := RX8) (T := TX8) (N := 45) rfl rfl (Nat.lt_of_succ_le (Nat.le_of_ble_eq_true rfl)) rfl rfl (Nat.le_of_ble_eq_true rfl) ⟨Nat.le_of_ble_eq_true rfl, Nat.le_of_ble_eq_true rfl⟩ rfl (fun q_4 => ?_)
    refine w_ifne (q := 41) (tgt := 43) hc dX8_home_38 rfl rfl ?_ ?_
    · refine w_iconst (q := 42) hc dX8_home_41 ci_m1 rfl ?_
      exact w_ireturn (v := (-1)) hc hq dX8_home_42 rfl rfl rfl
    · refine w_aload_n (q := 44) (i := 0) (j := 0) hc dX8_home_43 rfl rfl rfl ?_
      refine w_callV_Wv (q := 47) (st := []) (args := []) (p := 43) hc (m_X8_remembers hK hR) dX8_home_44 ml_X8_387 cf_X8_remembers iv_X8_remembers (k_43 hK) (C := RX8) (T := TX8) (N := 45) rfl rfl (Nat.lt_of_succ_le (Nat.le_of_ble_eq_true rfl)) rfl rfl (Nat.le_of_ble_eq_true rfl) ⟨Nat.le_of_ble_eq_true rfl, Nat.le_of_ble_eq_true rfl⟩ rfl (fun q_5 => ?_)
      refine w_aload_n (q := 48) (i := 0) (j := 0) hc dX8_home_47 rfl rfl rfl ?_
      refine gf_X8_19 (q := 51) hc dX8_home_48 (k_43 hK) (r_43_7 hR) rfl ?_
      refine w_callS_Wv (q := 54) (st := []) (args := [.ref 47]) hc (m_X8_isHome hK hR (kB hK (k_47 hK))) dX8_home_51 ml_X8_96 cf_X8_isHome st_X8_isHome rfl rfl (Nat.le_of_ble_eq_true rfl) ⟨Nat.le_of_ble_eq_true rfl, Nat.le_of_ble_eq_true rfl⟩ rfl (fun q_6 => ?_)
      refine w_aload_n (q := 55) (i := 0) (j := 0) hc dX8_home_54 rfl rfl rfl ?_
      refine gf_X8_19 (q := 58) hc dX8_home_55 (k_43 hK) (r_43_7 hR) rfl ?_
      refine w_iconst (q := 59) hc dX8_home_58 ci_0 rfl ?_
      refine w_aload_n (q := 60) (i := 0) (j := 0) hc dX8_home_59 rfl rfl rfl ?_
      refine gf_X8_7 (q := 63) hc dX8_home_60 (k_43 hK) (r_43_4 hR) rfl ?_
      refine w_iconst (q := 64) hc dX8_home_63 ci_1 rfl ?_
      refine w_callS_Wv (q := 67) (st := []) (args := [.ref 47, .int 0, .ref 44, .int 1]) hc (m_X8_copies hK hR (kB hK (k_47 hK)) (kB hK (k_44 hK))) dX8_home_64 ml_X8_100 cf_X8_copies st_X8_copies rfl rfl (Nat.le_of_ble_eq_true rfl) ⟨Nat.le_of_ble_eq_true rfl, Nat.le_of_ble_eq_true rfl⟩ rfl (fun q_7 => ?_)
      refine w_aload_n (q := 68) (i := 0) (j := 0) hc dX8_home_67 rfl rfl rfl ?_
      refine gf_X8_118 (q := 71) hc dX8_home_68 (k_43 hK) rfl ?_
      refine w_aload_n (q := 72) (i := 0) (j := 0) hc dX8_home_71 rfl rfl rfl ?_
      refine w_aload_n (q := 73) (i := 0) (j := 0) hc dX8_home_72 rfl rfl rfl ?_
      refine gf_X8_16 (q := 76) hc dX8_home_73 (k_43 hK) (r_43_6 hR) rfl ?_
      refine w_callV_Ri (q := 79) (st := [.int (q_7.1 43 2)]) (args := [.ref 46]) (p := 43) hc (m_X8_staying hK hR (kB hK (k_46 hK))) dX8_home_76 ml_X8_251 cf_X8_staying iv_X8_staying (k_43 hK) (C := RX8) (T := TX8) (N := 45) rfl rfl (Nat.lt_of_succ_le (Nat.le_of_ble_eq_true rfl)) rfl rfl (Nat.le_of_ble_eq_true rfl) ⟨Nat.le_of_ble_eq_true rfl, Nat.le_of_ble_eq_true rfl⟩ rfl (fun q_8 => ?_)
      refine w_isub (q := 80) hc dX8_home_79  rfl ?_
      exact w_ireturn (v := ((q_7.1 43 2) - q_8)) hc hq dX8_home_80 rfl rfl rfl
  · intro j35_372 hj35_372
    refine w_ifne (q := 16) (tgt := 20) hc dX8_home_13 rfl rfl ?_ ?_
    · refine w_iconst (q := 17) hc dX8_home_16 ci_5 rfl ?_
      refine w_goto (tgt := 35) hc dX8_home_17 rfl ?_
      exact hj35_372 5
    · refine w_aload_n (q := 21) (i := 0) (j := 0) hc dX8_home_20 rfl rfl rfl ?_
      refine gf_X8_16 (q := 24) hc dX8_home_21 (k_43 hK) (r_43_6 hR) rfl ?_
      refine w_callS_Rz (q := 27) (st := [.ref 43]) (args := [.ref 46]) hc (m_X8_stays hK hR (kB hK (k_46 hK))) dX8_home_24 ml_X8_201 cf_X8_stays st_X8_stays rfl rfl (Nat.le_of_ble_eq_true rfl) ⟨Nat.le_of_ble_eq_true rfl, Nat.le_of_ble_eq_true rfl⟩ rfl (fun q_2 => ?_)
      refine w_ifeq (q := 30) (tgt := 34) hc dX8_home_27 rfl rfl ?_ ?_
      · refine w_iconst (q := 35) hc dX8_home_34 ci_0 rfl ?_
        exact hj35_372 0
      · refine w_iconst (q := 31) hc dX8_home_30 ci_4 rfl ?_
        refine w_goto (tgt := 35) hc dX8_home_31 rfl ?_
        exact hj35_372 4
set_option maxRecDepth 100000 in
set_option maxHeartbeats 4000000 in
theorem m_X8_add {l : Launch} {K : KT} {R : MR} {rm : Nat} {a1 : Int64} {I : MI} {L : ML} (hK0 : K = lK rm) (hR0 : R = lR rm) : MFg l yX8_add cX8_add 3 (some .int) 9 204 [.ref 43, .long a1] K R I L anIW meW (f_X8_add a1 I L) := by
  refine mf_of (plainFor_of_name (by decide)) (Nat.le_of_ble_eq_true rfl) ?_
  intro G hc _ hK1 hR1 hn hq
  have hK := hK1.trans hK0
  have hR := hR1.trans hR0
  have hN : ∀ i, Nat.blt i 3 = true → i < gnL G := fun i h => hn ▸ Nat.blt_eq.mp h
  unfold f_X8_add
  show WW G 0 [(0, .ref 43), (1, .long a1)] [] I L _
  refine w_aload_n (q := 1) (i := 0) (j := 0) hc dX8_add_0 rfl rfl rfl ?_
  refine w_aload_n (q := 2) (i := 0) (j := 0) hc dX8_add_1 rfl rfl rfl ?_
  refine w_lload_n (q := 3) (i := 1) (j := 1) hc dX8_add_2 rfl rfl rfl ?_
  refine w_aload_n (q := 4) (i := 0) (j := 0) hc dX8_add_3 rfl rfl rfl ?_
  refine gf_X8_16 (q := 7) hc dX8_add_4 (k_43 hK) (r_43_6 hR) rfl ?_
  refine w_callV_Wz (q := 10) (st := [.ref 43]) (args := [.long a1, .ref 46]) (p := 43) hc (m_X8_lies hK hR (kB hK (k_46 hK))) dX8_add_7 ml_X8_217 cf_X8_lies iv_X8_lies (k_43 hK) (C := RX8) (T := TX8) (N := 45) rfl rfl (Nat.lt_of_succ_le (Nat.le_of_ble_eq_true rfl)) rfl rfl (Nat.le_of_ble_eq_true rfl) ⟨Nat.le_of_ble_eq_true rfl, Nat.le_of_ble_eq_true rfl⟩ rfl (fun q_1 => ?_)
  refine w_join (fun j31_373 : Int32 → Option (Int32 × Mm) => ∀ (s0_3 : Int32), WW G 31 [(0, .ref 43)] [.int s0_3, .ref 43] q_1.2.1 q_1.2.2 (j31_373 s0_3)) ?_ ?_
  · intro s0_3
    refine w_callV_Wz (q := 34) (st := []) (args := [.int s0_3]) (p := 43) hc (m_X8_is hK hR) dX8_add_31 ml_X8_194 cf_X8_is iv_X8_is (k_43 hK) (C := RX8) (T := TX8) (N := 45) rfl rfl (Nat.lt_of_succ_le (Nat.le_of_ble_eq_true rfl)) rfl rfl (Nat.le_of_ble_eq_true rfl) ⟨Nat.le_of_ble_eq_true rfl, Nat.le_of_ble_eq_true rfl⟩ rfl (fun q_4 => ?_)
    refine w_ifne (q := 37) (tgt := 39) hc dX8_add_34 rfl rfl ?_ ?_
    · refine w_iconst (q := 38) hc dX8_add_37 ci_m1 rfl ?_
      exact w_ireturn (v := (-1)) hc hq dX8_add_38 rfl rfl rfl
    · refine w_aload_n (q := 40) (i := 0) (j := 0) hc dX8_add_39 rfl rfl rfl ?_
      refine w_callV_Wv (q := 43) (st := []) (args := []) (p := 43) hc (m_X8_remembers hK hR) dX8_add_40 ml_X8_387 cf_X8_remembers iv_X8_remembers (k_43 hK) (C := RX8) (T := TX8) (N := 45) rfl rfl (Nat.lt_of_succ_le (Nat.le_of_ble_eq_true rfl)) rfl rfl (Nat.le_of_ble_eq_true rfl) ⟨Nat.le_of_ble_eq_true rfl, Nat.le_of_ble_eq_true rfl⟩ rfl (fun q_5 => ?_)
      refine w_aload_n (q := 44) (i := 0) (j := 0) hc dX8_add_43 rfl rfl rfl ?_
      refine gf_X8_16 (q := 47) hc dX8_add_44 (k_43 hK) (r_43_6 hR) rfl ?_
      refine w_iconst (q := 48) hc dX8_add_47 ci_0 rfl ?_
      refine w_aload_n (q := 49) (i := 0) (j := 0) hc dX8_add_48 rfl rfl rfl ?_
      refine gf_X8_7 (q := 52) hc dX8_add_49 (k_43 hK) (r_43_4 hR) rfl ?_
      refine w_bipush (q := 54) hc dX8_add_52 cb_11 rfl ?_
      refine w_bipush (q := 56) hc dX8_add_54 cb_10 rfl ?_
      refine w_aload_n (q := 57) (i := 0) (j := 0) hc dX8_add_56 rfl rfl rfl ?_
      refine w_callV_Ri (q := 60) (st := [.int 10, .int 11, .ref 44, .int 0, .ref 46]) (args := []) (p := 43) hc (m_X8_moves hK hR) dX8_add_57 ml_X8_110 cf_X8_moves iv_X8_moves (k_43 hK) (C := RX8) (T := TX8) (N := 45) rfl rfl (Nat.lt_of_succ_le (Nat.le_of_ble_eq_true rfl)) rfl rfl (Nat.le_of_ble_eq_true rfl) ⟨Nat.le_of_ble_eq_true rfl, Nat.le_of_ble_eq_true rfl⟩ rfl (fun q_6 => ?_)
      refine w_imul (q := 61) hc dX8_add_60  rfl ?_
      refine w_iadd (q := 62) hc dX8_add_61  rfl ?_
      refine w_callS_Wv (q := 65) (st := []) (args := [.ref 46, .int 0, .ref 44, .int (11 + (10 * q_6))]) hc (m_X8_copies hK hR (kB hK (k_46 hK)) (kB hK (k_44 hK))) dX8_add_62 ml_X8_100 cf_X8_copies st_X8_copies rfl rfl (Nat.le_of_ble_eq_true rfl) ⟨Nat.le_of_ble_eq_true rfl, Nat.le_of_ble_eq_true rfl⟩ rfl (fun q_7 => ?_)
      refine w_aload_n (q := 66) (i := 0) (j := 0) hc dX8_add_65 rfl rfl rfl ?_
      refine gf_X8_7 (q := 69) hc dX8_add_66 (k_43 hK) (r_43_4 hR) rfl ?_
      refine w_iconst (q := 70) hc dX8_add_69 ci_0 rfl ?_
      refine w_dup2_rr (q := 71) hc dX8_add_70  rfl ?_
      refine w_iald (q := 72) hc dX8_add_71 (k_44 hK) rfl ?_
      refine w_iconst (q := 73) hc dX8_add_72 ci_1 rfl ?_
      refine w_iadd (q := 74) hc dX8_add_73  rfl ?_
      refine w_iast (q := 75) hc dX8_add_74 (k_44 hK) rfl (fun I_8 => ?_)
      refine w_aload_n (q := 76) (i := 0) (j := 0) hc dX8_add_75 rfl rfl rfl ?_
      refine w_iconst (q := 77) hc dX8_add_76 ci_0 rfl ?_
      refine pf_X8_171 (q := 80) hc dX8_add_77 (k_43 hK) bz_0 rfl (fun I_9 => ?_)
      refine w_aload_n (q := 81) (i := 0) (j := 0) hc dX8_add_80 rfl rfl rfl ?_
      refine w_callV_Wi (q := 84) (st := []) (args := []) (p := 43) hc (m_X8_orderNow hK hR) dX8_add_81 ml_X8_185 cf_X8_orderNow iv_X8_orderNow (k_43 hK) (C := RX8) (T := TX8) (N := 45) rfl rfl (Nat.lt_of_succ_le (Nat.le_of_ble_eq_true rfl)) rfl rfl (Nat.le_of_ble_eq_true rfl) ⟨Nat.le_of_ble_eq_true rfl, Nat.le_of_ble_eq_true rfl⟩ rfl (fun q_10 => ?_)
      exact w_ireturn (v := q_10.1) hc hq dX8_add_84 rfl rfl rfl
  · intro j31_373 hj31_373
    refine w_ifne (q := 13) (tgt := 17) hc dX8_add_10 rfl rfl ?_ ?_
    · refine w_iconst (q := 14) hc dX8_add_13 ci_1 rfl ?_
      refine w_goto (tgt := 31) hc dX8_add_14 rfl ?_
      refine w_sub [0] rfl ?_
      exact hj31_373 1
    · refine w_aload_n (q := 18) (i := 0) (j := 0) hc dX8_add_17 rfl rfl rfl ?_
      refine w_callV_Ri (q := 21) (st := [.ref 43]) (args := []) (p := 43) hc (m_X8_moves hK hR) dX8_add_18 ml_X8_110 cf_X8_moves iv_X8_moves (k_43 hK) (C := RX8) (T := TX8) (N := 45) rfl rfl (Nat.lt_of_succ_le (Nat.le_of_ble_eq_true rfl)) rfl rfl (Nat.le_of_ble_eq_true rfl) ⟨Nat.le_of_ble_eq_true rfl, Nat.le_of_ble_eq_true rfl⟩ rfl (fun q_2 => ?_)
      refine w_bipush (q := 23) hc dX8_add_21 cb_6 rfl ?_
      refine w_icmpne (q := 26) (tgt := 30) hc dX8_add_23 rfl rfl ?_ ?_
      · refine w_iconst (q := 27) hc dX8_add_26 ci_3 rfl ?_
        refine w_goto (tgt := 31) hc dX8_add_27 rfl ?_
        refine w_sub [0] rfl ?_
        exact hj31_373 3
      · refine w_iconst (q := 31) hc dX8_add_30 ci_0 rfl ?_
        refine w_sub [0] rfl ?_
        exact hj31_373 0
set_option maxRecDepth 100000 in
set_option maxHeartbeats 4000000 in
theorem wl_X8_drop_34 {G : GT (Int32 × Mm)} {rm : Nat} (L : ML) (hc : Cx G cX8_drop yX8_drop.cls (some .int) 9 204) (hq : RetQ G anIW meW) (hK : gK G = lK rm) (hR : gR G = lR rm) (hn : gnL G = 3) (k0 : MI → Option (Int32 × Mm)) (hk0 : ∀ (I_10 : MI), WW G 61 [(0, .ref 43)] [] I_10 L (k0 I_10)) : ∀ (n : Nat) (v2_6 : Int32) (I_7 : MI), WW G 34 [(0, .ref 43), (2, .int v2_6)] [] I_7 L (f_X8_drop_34 L k0 n v2_6 I_7) := by
  have hN : ∀ i, Nat.blt i 3 = true → i < gnL G := fun i h => hn ▸ Nat.blt_eq.mp h
  intro n
  induction n with
  | zero => intros; exact w_none _ _ _
  | succ n ih =>
    intros v2_6 I_7
    rw [f_X8_drop_34]
    refine w_iload_n (q := 35) (i := 2) (j := 1) hc dX8_drop_34 rfl rfl rfl ?_
    refine w_bipush (q := 37) hc dX8_drop_35 cb_61 rfl ?_
    refine w_icmpge (q := 40) (tgt := 61) hc dX8_drop_37 rfl rfl ?_ ?_
    · refine w_sub [0] rfl ?_
      exact hk0 I_7
    · refine w_aload_n (q := 41) (i := 0) (j := 0) hc dX8_drop_40 rfl rfl rfl ?_
      refine gf_X8_7 (q := 44) hc dX8_drop_41 (k_43 hK) (r_43_4 hR) rfl ?_
      refine w_iload_n (q := 45) (i := 2) (j := 1) hc dX8_drop_44 rfl rfl rfl ?_
      refine w_aload_n (q := 46) (i := 0) (j := 0) hc dX8_drop_45 rfl rfl rfl ?_
      refine gf_X8_7 (q := 49) hc dX8_drop_46 (k_43 hK) (r_43_4 hR) rfl ?_
      refine w_iload_n (q := 50) (i := 2) (j := 1) hc dX8_drop_49 rfl rfl rfl ?_
      refine w_bipush (q := 52) hc dX8_drop_50 cb_10 rfl ?_
      refine w_iadd (q := 53) hc dX8_drop_52  rfl ?_
      refine w_iald (q := 54) hc dX8_drop_53 (k_44 hK) rfl ?_
      refine w_iast (q := 55) hc dX8_drop_54 (k_44 hK) rfl (fun I_8 => ?_)
      refine w_iincB (q := 58) (i := 2) (j := 1) (lv' := fun v2_9 => [(2, .int v2_9), (0, .ref 43)]) hc dX8_drop_55 rfl ci_1 (hN 2 rfl) (fun _ => rfl) rfl (fun v2_9 => ?_)
      refine w_goto (tgt := 34) hc dX8_drop_58 rfl ?_
      refine w_sub [1, 0] rfl ?_
      exact ih v2_9 I_8
set_option maxRecDepth 100000 in
set_option maxHeartbeats 4000000 in
theorem m_X8_drop {l : Launch} {K : KT} {R : MR} {rm : Nat} {a1 : Int32} {I : MI} {L : ML} (hK0 : K = lK rm) (hR0 : R = lR rm) : MFg l yX8_drop cX8_drop 3 (some .int) 9 204 [.ref 43, .int a1] K R I L anIW meW (f_X8_drop a1 I L) := by
  refine mf_of (plainFor_of_name (by decide)) (Nat.le_of_ble_eq_true rfl) ?_
  intro G hc _ hK1 hR1 hn hq
  have hK := hK1.trans hK0
  have hR := hR1.trans hR0
  have hN : ∀ i, Nat.blt i 3 = true → i < gnL G := fun i h => hn ▸ Nat.blt_eq.mp h
  unfold f_X8_drop
  show WW G 0 [(0, .ref 43), (1, .int a1)] [] I L _
  refine w_aload_n (q := 1) (i := 0) (j := 0) hc dX8_drop_0 rfl rfl rfl ?_
  refine w_aload_n (q := 2) (i := 0) (j := 0) hc dX8_drop_1 rfl rfl rfl ?_
  refine w_iload_n (q := 3) (i := 1) (j := 1) hc dX8_drop_2 rfl rfl rfl ?_
  refine w_callV_Rz (q := 6) (st := [.ref 43]) (args := [.int a1]) (p := 43) hc (m_X8_isMove hK hR) dX8_drop_3 ml_X8_390 cf_X8_isMove iv_X8_isMove (k_43 hK) (C := RX8) (T := TX8) (N := 45) rfl rfl (Nat.lt_of_succ_le (Nat.le_of_ble_eq_true rfl)) rfl rfl (Nat.le_of_ble_eq_true rfl) ⟨Nat.le_of_ble_eq_true rfl, Nat.le_of_ble_eq_true rfl⟩ rfl (fun q_1 => ?_)
  refine w_join (fun j14_374 : Int32 → Option (Int32 × Mm) => ∀ (s0_2 : Int32), WW G 14 [(0, .ref 43), (1, .int a1)] [.int s0_2, .ref 43] I L (j14_374 s0_2)) ?_ ?_
  · intro s0_2
    refine w_callV_Wz (q := 17) (st := []) (args := [.int s0_2]) (p := 43) hc (m_X8_is hK hR) dX8_drop_14 ml_X8_194 cf_X8_is iv_X8_is (k_43 hK) (C := RX8) (T := TX8) (N := 45) rfl rfl (Nat.lt_of_succ_le (Nat.le_of_ble_eq_true rfl)) rfl rfl (Nat.le_of_ble_eq_true rfl) ⟨Nat.le_of_ble_eq_true rfl, Nat.le_of_ble_eq_true rfl⟩ rfl (fun q_3 => ?_)
    refine w_ifne (q := 20) (tgt := 22) hc dX8_drop_17 rfl rfl ?_ ?_
    · refine w_iconst (q := 21) hc dX8_drop_20 ci_m1 rfl ?_
      exact w_ireturn (v := (-1)) hc hq dX8_drop_21 rfl rfl rfl
    · refine w_aload_n (q := 23) (i := 0) (j := 0) hc dX8_drop_22 rfl rfl rfl ?_
      refine w_callV_Wv (q := 26) (st := []) (args := []) (p := 43) hc (m_X8_remembers hK hR) dX8_drop_23 ml_X8_387 cf_X8_remembers iv_X8_remembers (k_43 hK) (C := RX8) (T := TX8) (N := 45) rfl rfl (Nat.lt_of_succ_le (Nat.le_of_ble_eq_true rfl)) rfl rfl (Nat.le_of_ble_eq_true rfl) ⟨Nat.le_of_ble_eq_true rfl, Nat.le_of_ble_eq_true rfl⟩ rfl (fun q_4 => ?_)
      refine w_bipush (q := 28) hc dX8_drop_26 cb_11 rfl ?_
      refine w_bipush (q := 30) hc dX8_drop_28 cb_10 rfl ?_
      refine w_iload_n (q := 31) (i := 1) (j := 1) hc dX8_drop_30 rfl rfl rfl ?_
      refine w_imul (q := 32) hc dX8_drop_31  rfl ?_
      refine w_iadd (q := 33) hc dX8_drop_32  rfl ?_
      refine w_istore_nB (q := 34) (i := 2) (lv' := fun v2_5 => [(2, .int v2_5), (0, .ref 43), (1, .int a1)]) hc dX8_drop_33 rfl (hN 2 rfl) (fun _ => rfl) rfl (fun v2_5 => ?_)
      refine w_sub [1, 0] rfl ?_
      refine wl_X8_drop_34 q_4.2 hc hq hK hR hn _ ?_ FU v2_5 q_4.1
      intro I_10
      refine w_aload_n (q := 62) (i := 0) (j := 0) hc dX8_drop_61 rfl rfl rfl ?_
      refine gf_X8_7 (q := 65) hc dX8_drop_62 (k_43 hK) (r_43_4 hR) rfl ?_
      refine w_iconst (q := 66) hc dX8_drop_65 ci_0 rfl ?_
      refine w_dup2_rr (q := 67) hc dX8_drop_66  rfl ?_
      refine w_iald (q := 68) hc dX8_drop_67 (k_44 hK) rfl ?_
      refine w_iconst (q := 69) hc dX8_drop_68 ci_1 rfl ?_
      refine w_isub (q := 70) hc dX8_drop_69  rfl ?_
      refine w_iast (q := 71) hc dX8_drop_70 (k_44 hK) rfl (fun I_11 => ?_)
      refine w_aload_n (q := 72) (i := 0) (j := 0) hc dX8_drop_71 rfl rfl rfl ?_
      refine w_iconst (q := 73) hc dX8_drop_72 ci_0 rfl ?_
      refine pf_X8_171 (q := 76) hc dX8_drop_73 (k_43 hK) bz_0 rfl (fun I_12 => ?_)
      refine w_aload_n (q := 77) (i := 0) (j := 0) hc dX8_drop_76 rfl rfl rfl ?_
      refine w_callV_Wi (q := 80) (st := []) (args := []) (p := 43) hc (m_X8_orderNow hK hR) dX8_drop_77 ml_X8_185 cf_X8_orderNow iv_X8_orderNow (k_43 hK) (C := RX8) (T := TX8) (N := 45) rfl rfl (Nat.lt_of_succ_le (Nat.le_of_ble_eq_true rfl)) rfl rfl (Nat.le_of_ble_eq_true rfl) ⟨Nat.le_of_ble_eq_true rfl, Nat.le_of_ble_eq_true rfl⟩ rfl (fun q_13 => ?_)
      exact w_ireturn (v := q_13.1) hc hq dX8_drop_80 rfl rfl rfl
  · intro j14_374 hj14_374
    refine w_ifeq (q := 9) (tgt := 13) hc dX8_drop_6 rfl rfl ?_ ?_
    · refine w_iconst (q := 14) hc dX8_drop_13 ci_2 rfl ?_
      exact hj14_374 2
    · refine w_iconst (q := 10) hc dX8_drop_9 ci_0 rfl ?_
      refine w_goto (tgt := 14) hc dX8_drop_10 rfl ?_
      exact hj14_374 0
set_option maxRecDepth 100000 in
set_option maxHeartbeats 4000000 in
theorem wl_X8_undo_33 {G : GT (Int32 × Mm)} {rm : Nat} (L : ML) (hc : Cx G cX8_undo yX8_undo.cls (some .int) 1 21) (hq : RetQ G anIW meW) (hK : gK G = lK rm) (hR : gR G = lR rm) (hn : gnL G = 2) (k0 : MI → Option (Int32 × Mm)) (hk0 : ∀ (I_8 : MI), WW G 65 [(0, .ref 43)] [] I_8 L (k0 I_8)) : ∀ (n : Nat) (v1_4 : Int32) (I_5 : MI), WW G 33 [(0, .ref 43), (1, .int v1_4)] [] I_5 L (f_X8_undo_33 L k0 n v1_4 I_5) := by
  have hN : ∀ i, Nat.blt i 2 = true → i < gnL G := fun i h => hn ▸ Nat.blt_eq.mp h
  intro n
  induction n with
  | zero => intros; exact w_none _ _ _
  | succ n ih =>
    intros v1_4 I_5
    rw [f_X8_undo_33]
    refine w_iload_n (q := 34) (i := 1) (j := 1) hc dX8_undo_33 rfl rfl rfl ?_
    refine w_bipush (q := 36) hc dX8_undo_34 cb_71 rfl ?_
    refine w_icmpge (q := 39) (tgt := 65) hc dX8_undo_36 rfl rfl ?_ ?_
    · refine w_sub [0] rfl ?_
      exact hk0 I_5
    · refine w_aload_n (q := 40) (i := 0) (j := 0) hc dX8_undo_39 rfl rfl rfl ?_
      refine gf_X8_7 (q := 43) hc dX8_undo_40 (k_43 hK) (r_43_4 hR) rfl ?_
      refine w_iload_n (q := 44) (i := 1) (j := 1) hc dX8_undo_43 rfl rfl rfl ?_
      refine w_aload_n (q := 45) (i := 0) (j := 0) hc dX8_undo_44 rfl rfl rfl ?_
      refine gf_X8_13 (q := 48) hc dX8_undo_45 (k_43 hK) (r_43_5 hR) rfl ?_
      refine w_bipush (q := 50) hc dX8_undo_48 cb_71 rfl ?_
      refine w_aload_n (q := 51) (i := 0) (j := 0) hc dX8_undo_50 rfl rfl rfl ?_
      refine gf_X8_121 (q := 54) hc dX8_undo_51 (k_43 hK) rfl ?_
      refine w_imul (q := 55) hc dX8_undo_54  rfl ?_
      refine w_iload_n (q := 56) (i := 1) (j := 1) hc dX8_undo_55 rfl rfl rfl ?_
      refine w_iadd (q := 57) hc dX8_undo_56  rfl ?_
      refine w_iald (q := 58) hc dX8_undo_57 (k_45 hK) rfl ?_
      refine w_iast (q := 59) hc dX8_undo_58 (k_44 hK) rfl (fun I_6 => ?_)
      refine w_iincB (q := 62) (i := 1) (j := 1) (lv' := fun v1_7 => [(1, .int v1_7), (0, .ref 43)]) hc dX8_undo_59 rfl ci_1 (hN 1 rfl) (fun _ => rfl) rfl (fun v1_7 => ?_)
      refine w_goto (tgt := 33) hc dX8_undo_62 rfl ?_
      refine w_sub [1, 0] rfl ?_
      exact ih v1_7 I_6
set_option maxRecDepth 100000 in
set_option maxHeartbeats 4000000 in
theorem m_X8_undo {l : Launch} {K : KT} {R : MR} {rm : Nat} {I : MI} {L : ML} (hK0 : K = lK rm) (hR0 : R = lR rm) : MFg l yX8_undo cX8_undo 2 (some .int) 1 21 [.ref 43] K R I L anIW meW (f_X8_undo I L) := by
  refine mf_of (plainFor_of_name (by decide)) (Nat.le_of_ble_eq_true rfl) ?_
  intro G hc _ hK1 hR1 hn hq
  have hK := hK1.trans hK0
  have hR := hR1.trans hR0
  have hN : ∀ i, Nat.blt i 2 = true → i < gnL G := fun i h => hn ▸ Nat.blt_eq.mp h
  unfold f_X8_undo
  show WW G 0 [(0, .ref 43)] [] I L _
  refine w_aload_n (q := 1) (i := 0) (j := 0) hc dX8_undo_0 rfl rfl rfl ?_
  refine w_aload_n (q := 2) (i := 0) (j := 0) hc dX8_undo_1 rfl rfl rfl ?_
  refine gf_X8_121 (q := 5) hc dX8_undo_2 (k_43 hK) rfl ?_
  refine w_join (fun j13_377 : Int32 → Option (Int32 × Mm) => ∀ (s0_1 : Int32), WW G 13 [(0, .ref 43)] [.int s0_1, .ref 43] I L (j13_377 s0_1)) ?_ ?_
  · intro s0_1
    refine w_callV_Wz (q := 16) (st := []) (args := [.int s0_1]) (p := 43) hc (m_X8_is hK hR) dX8_undo_13 ml_X8_194 cf_X8_is iv_X8_is (k_43 hK) (C := RX8) (T := TX8) (N := 45) rfl rfl (Nat.lt_of_succ_le (Nat.le_of_ble_eq_true rfl)) rfl rfl (Nat.le_of_ble_eq_true rfl) ⟨Nat.le_of_ble_eq_true rfl, Nat.le_of_ble_eq_true rfl⟩ rfl (fun q_2 => ?_)
    refine w_ifne (q := 19) (tgt := 21) hc dX8_undo_16 rfl rfl ?_ ?_
    · refine w_iconst (q := 20) hc dX8_undo_19 ci_m1 rfl ?_
      exact w_ireturn (v := (-1)) hc hq dX8_undo_20 rfl rfl rfl
    · refine w_aload_n (q := 22) (i := 0) (j := 0) hc dX8_undo_21 rfl rfl rfl ?_
      refine w_dup_ref (q := 23) hc dX8_undo_22  rfl ?_
      refine gf_X8_121 (q := 26) hc dX8_undo_23 (k_43 hK) rfl ?_
      refine w_iconst (q := 27) hc dX8_undo_26 ci_1 rfl ?_
      refine w_isub (q := 28) hc dX8_undo_27  rfl ?_
      refine pf_X8_121 (q := 31) hc dX8_undo_28 (k_43 hK) rfl (fun I_3 => ?_)
      refine w_iconst (q := 32) hc dX8_undo_31 ci_0 rfl ?_
      refine w_istore_n (q := 33) (i := 1) (lv' := [(1, .int 0), (0, .ref 43)]) hc dX8_undo_32 rfl (hN 1 rfl) rfl rfl ?_
      refine w_sub [1, 0] rfl ?_
      refine wl_X8_undo_33 q_2.2.2 hc hq hK hR hn _ ?_ FU 0 I_3
      intro I_8
      refine w_aload_n (q := 66) (i := 0) (j := 0) hc dX8_undo_65 rfl rfl rfl ?_
      refine w_iconst (q := 67) hc dX8_undo_66 ci_0 rfl ?_
      refine pf_X8_171 (q := 70) hc dX8_undo_67 (k_43 hK) bz_0 rfl (fun I_9 => ?_)
      refine w_aload_n (q := 71) (i := 0) (j := 0) hc dX8_undo_70 rfl rfl rfl ?_
      refine gf_X8_121 (q := 74) hc dX8_undo_71 (k_43 hK) rfl ?_
      exact w_ireturn (v := (I_9 43 3)) hc hq dX8_undo_74 rfl rfl rfl
  · intro j13_377 hj13_377
    refine w_ifne (q := 8) (tgt := 12) hc dX8_undo_5 rfl rfl ?_ ?_
    · refine w_iconst (q := 9) hc dX8_undo_8 ci_5 rfl ?_
      refine w_goto (tgt := 13) hc dX8_undo_9 rfl ?_
      exact hj13_377 5
    · refine w_iconst (q := 13) hc dX8_undo_12 ci_0 rfl ?_
      exact hj13_377 0
set_option maxRecDepth 100000 in
set_option maxHeartbeats 4000000 in
theorem m_X8_writes {l : Launch} {K : KT} {R : MR} {rm : Nat} {a1 : Int32} {I : MI} {L : ML} (hK0 : K = lK rm) (hR0 : R = lR rm) : MFg l yX8_writes cX8_writes 2 none 0 0 [.ref 43, .int a1] K R I L anV meV (f_X8_writes a1 I L) := by
  refine mf_of (plainFor_of_name (by decide)) (Nat.le_of_ble_eq_true rfl) ?_
  intro G hc _ hK1 hR1 hn hq
  have hK := hK1.trans hK0
  have hR := hR1.trans hR0
  have hN : ∀ i, Nat.blt i 2 = true → i < gnL G := fun i h => hn ▸ Nat.blt_eq.mp h
  unfold f_X8_writes
  show WW G 0 [(0, .ref 43), (1, .int a1)] [] I L _
  refine w_aload_n (q := 1) (i := 0) (j := 0) hc dX8_writes_0 rfl rfl rfl ?_
  refine gf_X8_75 (q := 4) hc dX8_writes_1 (k_43 hK) (r_43_27 hR) rfl ?_
  refine w_aload_n (q := 5) (i := 0) (j := 0) hc dX8_writes_4 rfl rfl rfl ?_
  refine gf_X8_393 (q := 8) hc dX8_writes_5 (k_43 hK) rfl ?_
  refine w_iload_n (q := 9) (i := 1) (j := 1) hc dX8_writes_8 rfl rfl rfl ?_
  refine w_i2b (q := 10) hc dX8_writes_9  rfl ?_
  refine w_bast (q := 11) hc dX8_writes_10 (k_65 hK) rfl (fun I_1 => ?_)
  refine w_aload_n (q := 12) (i := 0) (j := 0) hc dX8_writes_11 rfl rfl rfl ?_
  refine w_dup_ref (q := 13) hc dX8_writes_12  rfl ?_
  refine gf_X8_393 (q := 16) hc dX8_writes_13 (k_43 hK) rfl ?_
  refine w_iconst (q := 17) hc dX8_writes_16 ci_1 rfl ?_
  refine w_iadd (q := 18) hc dX8_writes_17  rfl ?_
  refine pf_X8_393 (q := 21) hc dX8_writes_18 (k_43 hK) rfl (fun I_2 => ?_)
  exact w_return hc hq dX8_writes_21 rfl rfl
set_option maxRecDepth 100000 in
set_option maxHeartbeats 4000000 in
theorem wl_X8_print_78 {G : GT (Int32 × Mm)} {rm : Nat} (v3_12 : Int32) (hc : Cx G cX8_print yX8_print.cls (some .int) 2 48) (hq : RetQ G anIW meW) (hK : gK G = lK rm) (hR : gR G = lR rm) (hn : gnL G = 5) (k0 : MI → ML → Option (Int32 × Mm)) (hk0 : ∀ (I_19 : MI) (L_20 : ML), WW G 111 [(0, .ref 43), (3, .int v3_12)] [] I_19 L_20 (k0 I_19 L_20)) : ∀ (n : Nat) (v4_13 : Int32) (I_14 : MI) (L_15 : ML), WW G 78 [(0, .ref 43), (3, .int v3_12), (4, .int v4_13)] [] I_14 L_15 (f_X8_print_78 v3_12 k0 n v4_13 I_14 L_15) := by
  have hN : ∀ i, Nat.blt i 5 = true → i < gnL G := fun i h => hn ▸ Nat.blt_eq.mp h
  intro n
  induction n with
  | zero => intros; exact w_none _ _ _
  | succ n ih =>
    intros v4_13 I_14 L_15
    rw [f_X8_print_78]
    refine w_iload (q := 80) (i := 4) (j := 2) hc dX8_print_78 rfl rfl ?_
    refine w_iload_n (q := 81) (i := 3) (j := 1) hc dX8_print_80 rfl rfl rfl ?_
    refine w_icmpeq (q := 84) (tgt := 111) hc dX8_print_81 rfl rfl ?_ ?_
    · refine w_sub [0, 1] rfl ?_
      exact hk0 I_14 L_15
    · refine w_aload_n (q := 85) (i := 0) (j := 0) hc dX8_print_84 rfl rfl rfl ?_
      refine w_bipush (q := 87) hc dX8_print_85 cb_32 rfl ?_
      refine w_callV_Wv (q := 90) (st := []) (args := [.int 32]) (p := 43) hc (m_X8_writes hK hR) dX8_print_87 ml_X8_396 cf_X8_writes iv_X8_writes (k_43 hK) (C := RX8) (T := TX8) (N := 45) rfl rfl (Nat.lt_of_succ_le (Nat.le_of_ble_eq_true rfl)) rfl rfl (Nat.le_of_ble_eq_true rfl) ⟨Nat.le_of_ble_eq_true rfl, Nat.le_of_ble_eq_true rfl⟩ rfl (fun q_16 => ?_)
      refine w_aload_n (q := 91) (i := 0) (j := 0) hc dX8_print_90 rfl rfl rfl ?_
      refine w_bipush (q := 93) hc dX8_print_91 cb_48 rfl ?_
      refine w_iload (q := 95) (i := 4) (j := 2) hc dX8_print_93 rfl rfl ?_
      refine w_iadd (q := 96) hc dX8_print_95  rfl ?_
      refine w_callV_Wv (q := 99) (st := []) (args := [.int (48 + v4_13)]) (p := 43) hc (m_X8_writes hK hR) dX8_print_96 ml_X8_396 cf_X8_writes iv_X8_writes (k_43 hK) (C := RX8) (T := TX8) (N := 45) rfl rfl (Nat.lt_of_succ_le (Nat.le_of_ble_eq_true rfl)) rfl rfl (Nat.le_of_ble_eq_true rfl) ⟨Nat.le_of_ble_eq_true rfl, Nat.le_of_ble_eq_true rfl⟩ rfl (fun q_17 => ?_)
      refine w_aload_n (q := 100) (i := 0) (j := 0) hc dX8_print_99 rfl rfl rfl ?_
      refine gf_X8_16 (q := 103) hc dX8_print_100 (k_43 hK) (r_43_6 hR) rfl ?_
      refine w_iload (q := 105) (i := 4) (j := 2) hc dX8_print_103 rfl rfl ?_
      refine w_iald (q := 106) hc dX8_print_105 (k_46 hK) rfl ?_
      refine w_istoreB (q := 108) (i := 4) (lv' := fun v4_18 => [(4, .int v4_18), (0, .ref 43), (3, .int v3_12)]) hc dX8_print_106 (hN 4 rfl) (fun _ => rfl) rfl (fun v4_18 => ?_)
      refine w_goto (tgt := 78) hc dX8_print_108 rfl ?_
      refine w_sub [1, 2, 0] rfl ?_
      exact ih v4_18 q_17.1 q_17.2
set_option maxRecDepth 100000 in
set_option maxHeartbeats 4000000 in
theorem wl_X8_print_33 {G : GT (Int32 × Mm)} {rm : Nat} (hc : Cx G cX8_print yX8_print.cls (some .int) 2 48) (hq : RetQ G anIW meW) (hK : gK G = lK rm) (hR : gR G = lR rm) (hn : gnL G = 5) (k0 : MI → ML → Option (Int32 × Mm)) (hk0 : ∀ (I_24 : MI) (L_25 : ML), WW G 123 [(0, .ref 43)] [] I_24 L_25 (k0 I_24 L_25)) : ∀ (n : Nat) (v3_5 : Int32) (I_6 : MI) (L_7 : ML), WW G 33 [(0, .ref 43), (3, .int v3_5)] [] I_6 L_7 (f_X8_print_33 k0 n v3_5 I_6 L_7) := by
  have hN : ∀ i, Nat.blt i 5 = true → i < gnL G := fun i h => hn ▸ Nat.blt_eq.mp h
  intro n
  induction n with
  | zero => intros; exact w_none _ _ _
  | succ n ih =>
    intros v3_5 I_6 L_7
    rw [f_X8_print_33]
    refine w_iload_n (q := 34) (i := 3) (j := 1) hc dX8_print_33 rfl rfl rfl ?_
    refine w_aload_n (q := 35) (i := 0) (j := 0) hc dX8_print_34 rfl rfl rfl ?_
    refine gf_X8_118 (q := 38) hc dX8_print_35 (k_43 hK) rfl ?_
    refine w_icmpge (q := 41) (tgt := 123) hc dX8_print_38 rfl rfl ?_ ?_
    · refine w_sub [0] rfl ?_
      exact hk0 I_6 L_7
    · refine w_aload_n (q := 42) (i := 0) (j := 0) hc dX8_print_41 rfl rfl rfl ?_
      refine gf_X8_16 (q := 45) hc dX8_print_42 (k_43 hK) (r_43_6 hR) rfl ?_
      refine w_iload_n (q := 46) (i := 3) (j := 1) hc dX8_print_45 rfl rfl rfl ?_
      refine w_callS_Ri (q := 49) (st := []) (args := [.ref 46, .int v3_5]) hc (m_X8_cycleFrom hK hR (kB hK (k_46 hK))) dX8_print_46 ml_X8_236 cf_X8_cycleFrom st_X8_cycleFrom rfl rfl (Nat.le_of_ble_eq_true rfl) ⟨Nat.le_of_ble_eq_true rfl, Nat.le_of_ble_eq_true rfl⟩ rfl (fun q_8 => ?_)
      refine w_iconst (q := 50) hc dX8_print_49 ci_2 rfl ?_
      refine w_icmpge (q := 53) (tgt := 56) hc dX8_print_50 rfl rfl ?_ ?_
      · refine w_aload_n (q := 57) (i := 0) (j := 0) hc dX8_print_56 rfl rfl rfl ?_
        refine w_bipush (q := 59) hc dX8_print_57 cb_40 rfl ?_
        refine w_callV_Wv (q := 62) (st := []) (args := [.int 40]) (p := 43) hc (m_X8_writes hK hR) dX8_print_59 ml_X8_396 cf_X8_writes iv_X8_writes (k_43 hK) (C := RX8) (T := TX8) (N := 45) rfl rfl (Nat.lt_of_succ_le (Nat.le_of_ble_eq_true rfl)) rfl rfl (Nat.le_of_ble_eq_true rfl) ⟨Nat.le_of_ble_eq_true rfl, Nat.le_of_ble_eq_true rfl⟩ rfl (fun q_9 => ?_)
        refine w_aload_n (q := 63) (i := 0) (j := 0) hc dX8_print_62 rfl rfl rfl ?_
        refine w_bipush (q := 65) hc dX8_print_63 cb_48 rfl ?_
        refine w_iload_n (q := 66) (i := 3) (j := 1) hc dX8_print_65 rfl rfl rfl ?_
        refine w_iadd (q := 67) hc dX8_print_66  rfl ?_
        refine w_callV_Wv (q := 70) (st := []) (args := [.int (48 + v3_5)]) (p := 43) hc (m_X8_writes hK hR) dX8_print_67 ml_X8_396 cf_X8_writes iv_X8_writes (k_43 hK) (C := RX8) (T := TX8) (N := 45) rfl rfl (Nat.lt_of_succ_le (Nat.le_of_ble_eq_true rfl)) rfl rfl (Nat.le_of_ble_eq_true rfl) ⟨Nat.le_of_ble_eq_true rfl, Nat.le_of_ble_eq_true rfl⟩ rfl (fun q_10 => ?_)
        refine w_aload_n (q := 71) (i := 0) (j := 0) hc dX8_print_70 rfl rfl rfl ?_
        refine gf_X8_16 (q := 74) hc dX8_print_71 (k_43 hK) (r_43_6 hR) rfl ?_
        refine w_iload_n (q := 75) (i := 3) (j := 1) hc dX8_print_74 rfl rfl rfl ?_
        refine w_iald (q := 76) hc dX8_print_75 (k_46 hK) rfl ?_
        refine w_istoreB (q := 78) (i := 4) (lv' := fun v4_11 => [(4, .int v4_11), (0, .ref 43), (3, .int v3_5)]) hc dX8_print_76 (hN 4 rfl) (fun _ => rfl) rfl (fun v4_11 => ?_)
        refine w_sub [1, 2, 0] rfl ?_
        refine wl_X8_print_78 v3_5 hc hq hK hR hn _ ?_ FU v4_11 q_10.1 q_10.2
        intro I_19 L_20
        refine w_aload_n (q := 112) (i := 0) (j := 0) hc dX8_print_111 rfl rfl rfl ?_
        refine w_bipush (q := 114) hc dX8_print_112 cb_41 rfl ?_
        refine w_callV_Wv (q := 117) (st := []) (args := [.int 41]) (p := 43) hc (m_X8_writes hK hR) dX8_print_114 ml_X8_396 cf_X8_writes iv_X8_writes (k_43 hK) (C := RX8) (T := TX8) (N := 45) rfl rfl (Nat.lt_of_succ_le (Nat.le_of_ble_eq_true rfl)) rfl rfl (Nat.le_of_ble_eq_true rfl) ⟨Nat.le_of_ble_eq_true rfl, Nat.le_of_ble_eq_true rfl⟩ rfl (fun q_21 => ?_)
        refine w_iincB (q := 120) (i := 3) (j := 1) (lv' := fun v3_22 => [(3, .int v3_22), (0, .ref 43)]) hc dX8_print_117 rfl ci_1 (hN 3 rfl) (fun _ => rfl) rfl (fun v3_22 => ?_)
        refine w_goto (tgt := 33) hc dX8_print_120 rfl ?_
        refine w_sub [1, 0] rfl ?_
        exact ih v3_22 q_21.1 q_21.2
      · refine w_goto (tgt := 117) hc dX8_print_53 rfl ?_
        refine w_iincB (q := 120) (i := 3) (j := 1) (lv' := fun v3_23 => [(3, .int v3_23), (0, .ref 43)]) hc dX8_print_117 rfl ci_1 (hN 3 rfl) (fun _ => rfl) rfl (fun v3_23 => ?_)
        refine w_goto (tgt := 33) hc dX8_print_120 rfl ?_
        refine w_sub [1, 0] rfl ?_
        exact ih v3_23 I_6 L_7
set_option maxRecDepth 100000 in
set_option maxHeartbeats 4000000 in
theorem m_X8_print {l : Launch} {K : KT} {R : MR} {rm : Nat} {a1 : Int64} {I : MI} {L : ML} (hK0 : K = lK rm) (hR0 : R = lR rm) : MFg l yX8_print cX8_print 5 (some .int) 2 48 [.ref 43, .long a1] K R I L anIW meW (f_X8_print a1 I L) := by
  refine mf_of (plainFor_of_name (by decide)) (Nat.le_of_ble_eq_true rfl) ?_
  intro G hc _ hK1 hR1 hn hq
  have hK := hK1.trans hK0
  have hR := hR1.trans hR0
  have hN : ∀ i, Nat.blt i 5 = true → i < gnL G := fun i h => hn ▸ Nat.blt_eq.mp h
  unfold f_X8_print
  show WW G 0 [(0, .ref 43), (1, .long a1)] [] I L _
  refine w_aload_n (q := 1) (i := 0) (j := 0) hc dX8_print_0 rfl rfl rfl ?_
  refine w_aload_n (q := 2) (i := 0) (j := 0) hc dX8_print_1 rfl rfl rfl ?_
  refine w_lload_n (q := 3) (i := 1) (j := 1) hc dX8_print_2 rfl rfl rfl ?_
  refine w_aload_n (q := 4) (i := 0) (j := 0) hc dX8_print_3 rfl rfl rfl ?_
  refine gf_X8_16 (q := 7) hc dX8_print_4 (k_43 hK) (r_43_6 hR) rfl ?_
  refine w_callV_Wz (q := 10) (st := [.ref 43]) (args := [.long a1, .ref 46]) (p := 43) hc (m_X8_lies hK hR (kB hK (k_46 hK))) dX8_print_7 ml_X8_217 cf_X8_lies iv_X8_lies (k_43 hK) (C := RX8) (T := TX8) (N := 45) rfl rfl (Nat.lt_of_succ_le (Nat.le_of_ble_eq_true rfl)) rfl rfl (Nat.le_of_ble_eq_true rfl) ⟨Nat.le_of_ble_eq_true rfl, Nat.le_of_ble_eq_true rfl⟩ rfl (fun q_1 => ?_)
  refine w_join (fun j18_380 : Bool → Option (Int32 × Mm) => ∀ (s0_2 : Bool), WW G 18 [(0, .ref 43)] [.int (b2i s0_2), .ref 43] q_1.2.1 q_1.2.2 (j18_380 s0_2)) ?_ ?_
  · intro s0_2
    refine w_callV_Wz (q := 21) (st := []) (args := [.int (b2i s0_2)]) (p := 43) hc (m_X8_is hK hR) dX8_print_18 ml_X8_194 cf_X8_is iv_X8_is (k_43 hK) (C := RX8) (T := TX8) (N := 45) rfl rfl (Nat.lt_of_succ_le (Nat.le_of_ble_eq_true rfl)) rfl rfl (Nat.le_of_ble_eq_true rfl) ⟨Nat.le_of_ble_eq_true rfl, Nat.le_of_ble_eq_true rfl⟩ rfl (fun q_3 => ?_)
    refine w_ifne (q := 24) (tgt := 26) hc dX8_print_21 rfl rfl ?_ ?_
    · refine w_iconst (q := 25) hc dX8_print_24 ci_m1 rfl ?_
      exact w_ireturn (v := (-1)) hc hq dX8_print_25 rfl rfl rfl
    · refine w_aload_n (q := 27) (i := 0) (j := 0) hc dX8_print_26 rfl rfl rfl ?_
      refine w_iconst (q := 28) hc dX8_print_27 ci_0 rfl ?_
      refine pf_X8_393 (q := 31) hc dX8_print_28 (k_43 hK) rfl (fun I_4 => ?_)
      refine w_iconst (q := 32) hc dX8_print_31 ci_0 rfl ?_
      refine w_istore_n (q := 33) (i := 3) (lv' := [(3, .int 0), (0, .ref 43)]) hc dX8_print_32 rfl (hN 3 rfl) rfl rfl ?_
      refine w_sub [1, 0] rfl ?_
      refine wl_X8_print_33 hc hq hK hR hn _ ?_ FU 0 I_4 q_3.2.2
      intro I_24 L_25
      refine w_aload_n (q := 124) (i := 0) (j := 0) hc dX8_print_123 rfl rfl rfl ?_
      refine gf_X8_393 (q := 127) hc dX8_print_124 (k_43 hK) rfl ?_
      refine w_ifne (q := 130) (tgt := 142) hc dX8_print_127 rfl rfl ?_ ?_
      · refine w_aload_n (q := 131) (i := 0) (j := 0) hc dX8_print_130 rfl rfl rfl ?_
        refine w_bipush (q := 133) hc dX8_print_131 cb_40 rfl ?_
        refine w_callV_Wv (q := 136) (st := []) (args := [.int 40]) (p := 43) hc (m_X8_writes hK hR) dX8_print_133 ml_X8_396 cf_X8_writes iv_X8_writes (k_43 hK) (C := RX8) (T := TX8) (N := 45) rfl rfl (Nat.lt_of_succ_le (Nat.le_of_ble_eq_true rfl)) rfl rfl (Nat.le_of_ble_eq_true rfl) ⟨Nat.le_of_ble_eq_true rfl, Nat.le_of_ble_eq_true rfl⟩ rfl (fun q_26 => ?_)
        refine w_aload_n (q := 137) (i := 0) (j := 0) hc dX8_print_136 rfl rfl rfl ?_
        refine w_bipush (q := 139) hc dX8_print_137 cb_41 rfl ?_
        refine w_callV_Wv (q := 142) (st := []) (args := [.int 41]) (p := 43) hc (m_X8_writes hK hR) dX8_print_139 ml_X8_396 cf_X8_writes iv_X8_writes (k_43 hK) (C := RX8) (T := TX8) (N := 45) rfl rfl (Nat.lt_of_succ_le (Nat.le_of_ble_eq_true rfl)) rfl rfl (Nat.le_of_ble_eq_true rfl) ⟨Nat.le_of_ble_eq_true rfl, Nat.le_of_ble_eq_true rfl⟩ rfl (fun q_27 => ?_)
        refine w_aload_n (q := 143) (i := 0) (j := 0) hc dX8_print_142 rfl rfl rfl ?_
        refine gf_X8_393 (q := 146) hc dX8_print_143 (k_43 hK) rfl ?_
        exact w_ireturn (v := (q_27.1 43 28)) hc hq dX8_print_146 rfl rfl rfl
      · refine w_aload_n (q := 143) (i := 0) (j := 0) hc dX8_print_142 rfl rfl rfl ?_
        refine gf_X8_393 (q := 146) hc dX8_print_143 (k_43 hK) rfl ?_
        exact w_ireturn (v := (I_24 43 28)) hc hq dX8_print_146 rfl rfl rfl
  · intro j18_380 hj18_380
    refine w_ifeq (q := 13) (tgt := 17) hc dX8_print_10 rfl rfl ?_ ?_
    · refine w_iconst (q := 18) hc dX8_print_17 ci_1 rfl ?_
      refine w_sub [0] rfl ?_
      exact hj18_380 true
    · refine w_iconst (q := 14) hc dX8_print_13 ci_0 rfl ?_
      refine w_goto (tgt := 18) hc dX8_print_14 rfl ?_
      refine w_sub [0] rfl ?_
      exact hj18_380 false
set_option maxRecDepth 100000 in
set_option maxHeartbeats 4000000 in
theorem m_X8_out {l : Launch} {K : KT} {R : MR} {rm : Nat} {a1 : Int32} {I : MI} {L : ML} (hK0 : K = lK rm) (hR0 : R = lR rm) : MFg l yX8_out cX8_out 2 (some .int) 1 21 [.ref 43, .int a1] K R I L anIW meW (f_X8_out a1 I L) := by
  refine mf_of (plainFor_of_name (by decide)) (Nat.le_of_ble_eq_true rfl) ?_
  intro G hc _ hK1 hR1 hn hq
  have hK := hK1.trans hK0
  have hR := hR1.trans hR0
  have hN : ∀ i, Nat.blt i 2 = true → i < gnL G := fun i h => hn ▸ Nat.blt_eq.mp h
  unfold f_X8_out
  show WW G 0 [(0, .ref 43), (1, .int a1)] [] I L _
  refine w_aload_n (q := 1) (i := 0) (j := 0) hc dX8_out_0 rfl rfl rfl ?_
  refine w_iload_n (q := 2) (i := 1) (j := 1) hc dX8_out_1 rfl rfl rfl ?_
  refine w_ifge (q := 5) (tgt := 9) hc dX8_out_2 rfl rfl ?_ ?_
  · refine w_iload_n (q := 10) (i := 1) (j := 1) hc dX8_out_9 rfl rfl rfl ?_
    refine w_aload_n (q := 11) (i := 0) (j := 0) hc dX8_out_10 rfl rfl rfl ?_
    refine gf_X8_393 (q := 14) hc dX8_out_11 (k_43 hK) rfl ?_
    refine w_icmplt (q := 17) (tgt := 21) hc dX8_out_14 rfl rfl ?_ ?_
    · refine w_iconst (q := 22) hc dX8_out_21 ci_0 rfl ?_
      refine w_callV_Wz (q := 25) (st := []) (args := [.int 0]) (p := 43) hc (m_X8_is hK hR) dX8_out_22 ml_X8_194 cf_X8_is iv_X8_is (k_43 hK) (C := RX8) (T := TX8) (N := 45) rfl rfl (Nat.lt_of_succ_le (Nat.le_of_ble_eq_true rfl)) rfl rfl (Nat.le_of_ble_eq_true rfl) ⟨Nat.le_of_ble_eq_true rfl, Nat.le_of_ble_eq_true rfl⟩ rfl (fun q_1 => ?_)
      refine w_ifeq (q := 28) (tgt := 37) hc dX8_out_25 rfl rfl ?_ ?_
      · refine w_iconst (q := 38) hc dX8_out_37 ci_m1 rfl ?_
        exact w_ireturn (v := (-1)) hc hq dX8_out_38 rfl rfl rfl
      · refine w_aload_n (q := 29) (i := 0) (j := 0) hc dX8_out_28 rfl rfl rfl ?_
        refine gf_X8_75 (q := 32) hc dX8_out_29 (k_43 hK) (r_43_27 hR) rfl ?_
        refine w_iload_n (q := 33) (i := 1) (j := 1) hc dX8_out_32 rfl rfl rfl ?_
        refine w_bald (q := 34) hc dX8_out_33 (k_65 hK) rfl ?_
        refine w_goto (tgt := 38) hc dX8_out_34 rfl ?_
        exact w_ireturn (v := (q_1.2.1 65 (ix a1))) hc hq dX8_out_38 rfl rfl rfl
    · refine w_iconst (q := 18) hc dX8_out_17 ci_5 rfl ?_
      refine w_goto (tgt := 22) hc dX8_out_18 rfl ?_
      refine w_callV_Wz (q := 25) (st := []) (args := [.int 5]) (p := 43) hc (m_X8_is hK hR) dX8_out_22 ml_X8_194 cf_X8_is iv_X8_is (k_43 hK) (C := RX8) (T := TX8) (N := 45) rfl rfl (Nat.lt_of_succ_le (Nat.le_of_ble_eq_true rfl)) rfl rfl (Nat.le_of_ble_eq_true rfl) ⟨Nat.le_of_ble_eq_true rfl, Nat.le_of_ble_eq_true rfl⟩ rfl (fun q_2 => ?_)
      refine w_ifeq (q := 28) (tgt := 37) hc dX8_out_25 rfl rfl ?_ ?_
      · refine w_iconst (q := 38) hc dX8_out_37 ci_m1 rfl ?_
        exact w_ireturn (v := (-1)) hc hq dX8_out_38 rfl rfl rfl
      · refine w_aload_n (q := 29) (i := 0) (j := 0) hc dX8_out_28 rfl rfl rfl ?_
        refine gf_X8_75 (q := 32) hc dX8_out_29 (k_43 hK) (r_43_27 hR) rfl ?_
        refine w_iload_n (q := 33) (i := 1) (j := 1) hc dX8_out_32 rfl rfl rfl ?_
        refine w_bald (q := 34) hc dX8_out_33 (k_65 hK) rfl ?_
        refine w_goto (tgt := 38) hc dX8_out_34 rfl ?_
        exact w_ireturn (v := (q_2.2.1 65 (ix a1))) hc hq dX8_out_38 rfl rfl rfl
  · refine w_iconst (q := 6) hc dX8_out_5 ci_1 rfl ?_
    refine w_goto (tgt := 22) hc dX8_out_6 rfl ?_
    refine w_callV_Wz (q := 25) (st := []) (args := [.int 1]) (p := 43) hc (m_X8_is hK hR) dX8_out_22 ml_X8_194 cf_X8_is iv_X8_is (k_43 hK) (C := RX8) (T := TX8) (N := 45) rfl rfl (Nat.lt_of_succ_le (Nat.le_of_ble_eq_true rfl)) rfl rfl (Nat.le_of_ble_eq_true rfl) ⟨Nat.le_of_ble_eq_true rfl, Nat.le_of_ble_eq_true rfl⟩ rfl (fun q_3 => ?_)
    refine w_ifeq (q := 28) (tgt := 37) hc dX8_out_25 rfl rfl ?_ ?_
    · refine w_iconst (q := 38) hc dX8_out_37 ci_m1 rfl ?_
      exact w_ireturn (v := (-1)) hc hq dX8_out_38 rfl rfl rfl
    · refine w_aload_n (q := 29) (i := 0) (j := 0) hc dX8_out_28 rfl rfl rfl ?_
      refine gf_X8_75 (q := 32) hc dX8_out_29 (k_43 hK) (r_43_27 hR) rfl ?_
      refine w_iload_n (q := 33) (i := 1) (j := 1) hc dX8_out_32 rfl rfl rfl ?_
      refine w_bald (q := 34) hc dX8_out_33 (k_65 hK) rfl ?_
      refine w_goto (tgt := 38) hc dX8_out_34 rfl ?_
      exact w_ireturn (v := (q_3.2.1 65 (ix a1))) hc hq dX8_out_38 rfl rfl rfl
set_option maxRecDepth 100000 in
set_option maxHeartbeats 4000000 in
theorem wl_X8_feeds_3 {G : GT Mm} {rm : Nat} (v1_1 : Int32) (L : ML) (hc : Cx G cX8_feeds yX8_feeds.cls none 0 0) (hq : RetQ G anV meV) (hK : gK G = lK rm) (hR : gR G = lR rm) (hn : gnL G = 3) : ∀ (n : Nat) (v2_2 : Int32) (I_3 : MI), WW G 3 [(0, .ref 43), (1, .int v1_1), (2, .int v2_2)] [] I_3 L (f_X8_feeds_3 v1_1 L n v2_2 I_3) := by
  have hN : ∀ i, Nat.blt i 3 = true → i < gnL G := fun i h => hn ▸ Nat.blt_eq.mp h
  intro n
  induction n with
  | zero => intros; exact w_none _ _ _
  | succ n ih =>
    intros v2_2 I_3
    rw [f_X8_feeds_3]
    refine w_iload_n (q := 4) (i := 2) (j := 2) hc dX8_feeds_3 rfl rfl rfl ?_
    refine w_iflt (q := 7) (tgt := 36) hc dX8_feeds_4 rfl rfl ?_ ?_
    · exact w_return hc hq dX8_feeds_36 rfl rfl
    · refine w_aload_n (q := 8) (i := 0) (j := 0) hc dX8_feeds_7 rfl rfl rfl ?_
      refine gf_X8_79 (q := 11) hc dX8_feeds_8 (k_43 hK) (r_43_29 hR) rfl ?_
      refine w_aload_n (q := 12) (i := 0) (j := 0) hc dX8_feeds_11 rfl rfl rfl ?_
      refine gf_X8_399 (q := 15) hc dX8_feeds_12 (k_43 hK) rfl ?_
      refine w_iload_n (q := 16) (i := 1) (j := 1) hc dX8_feeds_15 rfl rfl rfl ?_
      refine w_iload_n (q := 17) (i := 2) (j := 2) hc dX8_feeds_16 rfl rfl rfl ?_
      refine w_ishr (q := 18) hc dX8_feeds_17  rfl ?_
      refine w_i2b (q := 19) hc dX8_feeds_18  rfl ?_
      refine w_bast (q := 20) hc dX8_feeds_19 (k_66 hK) rfl (fun I_4 => ?_)
      refine w_aload_n (q := 21) (i := 0) (j := 0) hc dX8_feeds_20 rfl rfl rfl ?_
      refine w_dup_ref (q := 22) hc dX8_feeds_21  rfl ?_
      refine gf_X8_399 (q := 25) hc dX8_feeds_22 (k_43 hK) rfl ?_
      refine w_iconst (q := 26) hc dX8_feeds_25 ci_1 rfl ?_
      refine w_iadd (q := 27) hc dX8_feeds_26  rfl ?_
      refine pf_X8_399 (q := 30) hc dX8_feeds_27 (k_43 hK) rfl (fun I_5 => ?_)
      refine w_iincB (q := 33) (i := 2) (j := 2) (lv' := fun v2_6 => [(2, .int v2_6), (0, .ref 43), (1, .int v1_1)]) hc dX8_feeds_30 rfl ci_m8 (hN 2 rfl) (fun _ => rfl) rfl (fun v2_6 => ?_)
      refine w_goto (tgt := 3) hc dX8_feeds_33 rfl ?_
      refine w_sub [1, 2, 0] rfl ?_
      exact ih v2_6 I_5
set_option maxRecDepth 100000 in
set_option maxHeartbeats 4000000 in
theorem m_X8_feeds {l : Launch} {K : KT} {R : MR} {rm : Nat} {a1 : Int32} {I : MI} {L : ML} (hK0 : K = lK rm) (hR0 : R = lR rm) : MFg l yX8_feeds cX8_feeds 3 none 0 0 [.ref 43, .int a1] K R I L anV meV (f_X8_feeds a1 I L) := by
  refine mf_of (plainFor_of_name (by decide)) (Nat.le_of_ble_eq_true rfl) ?_
  intro G hc _ hK1 hR1 hn hq
  have hK := hK1.trans hK0
  have hR := hR1.trans hR0
  have hN : ∀ i, Nat.blt i 3 = true → i < gnL G := fun i h => hn ▸ Nat.blt_eq.mp h
  unfold f_X8_feeds
  show WW G 0 [(0, .ref 43), (1, .int a1)] [] I L _
  refine w_bipush (q := 2) hc dX8_feeds_0 cb_24 rfl ?_
  refine w_istore_n (q := 3) (i := 2) (lv' := [(2, .int 24), (0, .ref 43), (1, .int a1)]) hc dX8_feeds_2 rfl (hN 2 rfl) rfl rfl ?_
  refine w_sub [1, 2, 0] rfl ?_
  exact wl_X8_feeds_3 a1 L hc hq hK hR hn FU 24 I
set_option maxRecDepth 100000 in
set_option maxHeartbeats 4000000 in
theorem m_X8_feed {l : Launch} {K : KT} {R : MR} {rm : Nat} {a1 : Int32} {a2 : Int32} {a3 : Int32} {a4 : Int32} {a5 : Int32} {I : MI} {L : ML} (hK0 : K = lK rm) (hR0 : R = lR rm) : MFg l yX8_feed cX8_feed 6 (some .int) 1 22 [.ref 43, .int a1, .int a2, .int a3, .int a4, .int a5] K R I L anIW meW (f_X8_feed a1 a2 a3 a4 a5 I L) := by
  refine mf_of (plainFor_of_name (by decide)) (Nat.le_of_ble_eq_true rfl) ?_
  intro G hc _ hK1 hR1 hn hq
  have hK := hK1.trans hK0
  have hR := hR1.trans hR0
  have hN : ∀ i, Nat.blt i 6 = true → i < gnL G := fun i h => hn ▸ Nat.blt_eq.mp h
  unfold f_X8_feed
  show WW G 0 [(0, .ref 43), (1, .int a1), (2, .int a2), (3, .int a3), (4, .int a4), (5, .int a5)] [] I L _
  refine w_aload_n (q := 1) (i := 0) (j := 0) hc dX8_feed_0 rfl rfl rfl ?_
  refine w_iconst (q := 2) hc dX8_feed_1 ci_0 rfl ?_
  refine pf_X8_104 (q := 5) hc dX8_feed_2 (k_43 hK) rfl (fun I_1 => ?_)
  refine w_aload_n (q := 6) (i := 0) (j := 0) hc dX8_feed_5 rfl rfl rfl ?_
  refine gf_X8_399 (q := 9) hc dX8_feed_6 (k_43 hK) rfl ?_
  refine w_bipush (q := 11) hc dX8_feed_9 cb_20 rfl ?_
  refine w_iadd (q := 12) hc dX8_feed_11  rfl ?_
  refine w_sipush (q := 15) hc dX8_feed_12 cs_400 rfl ?_
  refine w_icmple (q := 18) (tgt := 20) hc dX8_feed_15 rfl rfl ?_ ?_
  · refine w_aload_n (q := 21) (i := 0) (j := 0) hc dX8_feed_20 rfl rfl rfl ?_
    refine w_iload_n (q := 22) (i := 1) (j := 1) hc dX8_feed_21 rfl rfl rfl ?_
    refine w_callV_Wv (q := 25) (st := []) (args := [.int a1]) (p := 43) hc (m_X8_feeds hK hR) dX8_feed_22 ml_X8_402 cf_X8_feeds iv_X8_feeds (k_43 hK) (C := RX8) (T := TX8) (N := 45) rfl rfl (Nat.lt_of_succ_le (Nat.le_of_ble_eq_true rfl)) rfl rfl (Nat.le_of_ble_eq_true rfl) ⟨Nat.le_of_ble_eq_true rfl, Nat.le_of_ble_eq_true rfl⟩ rfl (fun q_2 => ?_)
    refine w_aload_n (q := 26) (i := 0) (j := 0) hc dX8_feed_25 rfl rfl rfl ?_
    refine w_iload_n (q := 27) (i := 2) (j := 2) hc dX8_feed_26 rfl rfl rfl ?_
    refine w_callV_Wv (q := 30) (st := []) (args := [.int a2]) (p := 43) hc (m_X8_feeds hK hR) dX8_feed_27 ml_X8_402 cf_X8_feeds iv_X8_feeds (k_43 hK) (C := RX8) (T := TX8) (N := 45) rfl rfl (Nat.lt_of_succ_le (Nat.le_of_ble_eq_true rfl)) rfl rfl (Nat.le_of_ble_eq_true rfl) ⟨Nat.le_of_ble_eq_true rfl, Nat.le_of_ble_eq_true rfl⟩ rfl (fun q_3 => ?_)
    refine w_aload_n (q := 31) (i := 0) (j := 0) hc dX8_feed_30 rfl rfl rfl ?_
    refine w_iload_n (q := 32) (i := 3) (j := 3) hc dX8_feed_31 rfl rfl rfl ?_
    refine w_callV_Wv (q := 35) (st := []) (args := [.int a3]) (p := 43) hc (m_X8_feeds hK hR) dX8_feed_32 ml_X8_402 cf_X8_feeds iv_X8_feeds (k_43 hK) (C := RX8) (T := TX8) (N := 45) rfl rfl (Nat.lt_of_succ_le (Nat.le_of_ble_eq_true rfl)) rfl rfl (Nat.le_of_ble_eq_true rfl) ⟨Nat.le_of_ble_eq_true rfl, Nat.le_of_ble_eq_true rfl⟩ rfl (fun q_4 => ?_)
    refine w_aload_n (q := 36) (i := 0) (j := 0) hc dX8_feed_35 rfl rfl rfl ?_
    refine w_iload (q := 38) (i := 4) (j := 4) hc dX8_feed_36 rfl rfl ?_
    refine w_callV_Wv (q := 41) (st := []) (args := [.int a4]) (p := 43) hc (m_X8_feeds hK hR) dX8_feed_38 ml_X8_402 cf_X8_feeds iv_X8_feeds (k_43 hK) (C := RX8) (T := TX8) (N := 45) rfl rfl (Nat.lt_of_succ_le (Nat.le_of_ble_eq_true rfl)) rfl rfl (Nat.le_of_ble_eq_true rfl) ⟨Nat.le_of_ble_eq_true rfl, Nat.le_of_ble_eq_true rfl⟩ rfl (fun q_5 => ?_)
    refine w_aload_n (q := 42) (i := 0) (j := 0) hc dX8_feed_41 rfl rfl rfl ?_
    refine w_iload (q := 44) (i := 5) (j := 5) hc dX8_feed_42 rfl rfl ?_
    refine w_callV_Wv (q := 47) (st := []) (args := [.int a5]) (p := 43) hc (m_X8_feeds hK hR) dX8_feed_44 ml_X8_402 cf_X8_feeds iv_X8_feeds (k_43 hK) (C := RX8) (T := TX8) (N := 45) rfl rfl (Nat.lt_of_succ_le (Nat.le_of_ble_eq_true rfl)) rfl rfl (Nat.le_of_ble_eq_true rfl) ⟨Nat.le_of_ble_eq_true rfl, Nat.le_of_ble_eq_true rfl⟩ rfl (fun q_6 => ?_)
    refine w_aload_n (q := 48) (i := 0) (j := 0) hc dX8_feed_47 rfl rfl rfl ?_
    refine gf_X8_399 (q := 51) hc dX8_feed_48 (k_43 hK) rfl ?_
    exact w_ireturn (v := (q_6.1 43 30)) hc hq dX8_feed_51 rfl rfl rfl
  · refine w_iconst (q := 19) hc dX8_feed_18 ci_m1 rfl ?_
    exact w_ireturn (v := (-1)) hc hq dX8_feed_19 rfl rfl rfl
set_option maxRecDepth 100000 in
set_option maxHeartbeats 4000000 in
theorem m_X8_isOf {l : Launch} {K : KT} {R : MR} {rm : Nat} {a1 : Int32} {a2 : Int32} {a3 : Int32} {I : MI} {L : ML} (hK0 : K = lK rm) (hR0 : R = lR rm) : MFg l yX8_isOf cX8_isOf 4 (some .boolean) 1 25 [.ref 43, .int a1, .int a2, .int a3] K R I L anZ (meR I L) (f_X8_isOf a1 a2 a3 I L) := by
  refine mf_of (plainFor_of_name (by decide)) (Nat.le_of_ble_eq_true rfl) ?_
  intro G hc _ hK1 hR1 hn hq
  have hK := hK1.trans hK0
  have hR := hR1.trans hR0
  have hN : ∀ i, Nat.blt i 4 = true → i < gnL G := fun i h => hn ▸ Nat.blt_eq.mp h
  unfold f_X8_isOf
  show WW G 0 [(0, .ref 43), (1, .int a1), (2, .int a2), (3, .int a3)] [] I L _
  refine w_iload_n (q := 1) (i := 1) (j := 1) hc dX8_isOf_0 rfl rfl rfl ?_
  refine w_aload_n (q := 2) (i := 0) (j := 0) hc dX8_isOf_1 rfl rfl rfl ?_
  refine gf_X8_405 (q := 5) hc dX8_isOf_2 (k_43 hK) rfl ?_
  refine w_icmpge (q := 8) (tgt := 29) hc dX8_isOf_5 rfl rfl ?_ ?_
  · refine w_iconst (q := 30) hc dX8_isOf_29 ci_0 rfl ?_
    exact w_ireturn (v := b2i false) hc hq dX8_isOf_30 (nar_b2i false) rfl rfl
  · refine w_aload_n (q := 9) (i := 0) (j := 0) hc dX8_isOf_8 rfl rfl rfl ?_
    refine gf_X8_79 (q := 12) hc dX8_isOf_9 (k_43 hK) (r_43_29 hR) rfl ?_
    refine w_iload_n (q := 13) (i := 1) (j := 1) hc dX8_isOf_12 rfl rfl rfl ?_
    refine w_bald (q := 14) hc dX8_isOf_13 (k_66 hK) rfl ?_
    refine w_i2l (q := 15) hc dX8_isOf_14  rfl ?_
    refine w_iload_n (q := 16) (i := 2) (j := 2) hc dX8_isOf_15 rfl rfl rfl ?_
    refine w_i2l (q := 17) hc dX8_isOf_16  rfl ?_
    refine w_iload_n (q := 18) (i := 3) (j := 3) hc dX8_isOf_17 rfl rfl rfl ?_
    refine w_i2l (q := 19) hc dX8_isOf_18  rfl ?_
    refine w_callS_Rz (q := 22) (st := []) (args := [.long (Int32.toInt64 (I 66 (ix a1))), .long (Int32.toInt64 a2), .long (Int32.toInt64 a3)]) hc (m_X8_isIn hK hR) dX8_isOf_19 ml_X8_114 cf_X8_isIn st_X8_isIn rfl rfl (Nat.le_of_ble_eq_true rfl) ⟨Nat.le_of_ble_eq_true rfl, Nat.le_of_ble_eq_true rfl⟩ rfl (fun q_1 => ?_)
    refine w_ifeq (q := 25) (tgt := 29) hc dX8_isOf_22 rfl rfl ?_ ?_
    · refine w_iconst (q := 30) hc dX8_isOf_29 ci_0 rfl ?_
      exact w_ireturn (v := b2i false) hc hq dX8_isOf_30 (nar_b2i false) rfl rfl
    · refine w_iconst (q := 26) hc dX8_isOf_25 ci_1 rfl ?_
      refine w_goto (tgt := 30) hc dX8_isOf_26 rfl ?_
      exact w_ireturn (v := b2i true) hc hq dX8_isOf_30 (nar_b2i true) rfl rfl
