set_option maxRecDepth 100000 in
set_option maxHeartbeats 4000000 in
theorem wl_X0_start_15 {G : GT Mm} {rm : Nat} (cb : Nat) (hc : Cx G cX0_start yX0_start.cls none 1 23) (hq : RetQ G anV meV) (hK : gK G = lK rm) (hR : gR G = lR rm) (hn : gnL G = 4) (hcb : isCh cb) : ∀ (n : Nat) (v2_4 : Int32) (I_5 : MI) (L_6 : ML), WW G 15 [(0, .ref cb), (2, .int v2_4)] [] I_5 L_6 (f_X0_start_15 cb n v2_4 I_5 L_6) := by
  have hN : ∀ i, Nat.blt i 4 = true → i < gnL G := fun i h => hn ▸ Nat.blt_eq.mp h
  intro n
  induction n with
  | zero => intros; exact w_none _ _ _
  | succ n ih =>
    intros v2_4 I_5 L_6
    rw [f_X0_start_15]
    refine w_iload_n (q := 16) (i := 2) (j := 1) hc dX0_start_15 rfl rfl rfl ?_
    refine w_aload_n (q := 17) (i := 0) (j := 0) hc dX0_start_16 rfl rfl rfl ?_
    refine gf_X0_11 (q := 20) hc dX0_start_17 (kc_0 hK hcb) rfl ?_
    refine w_icmpge (q := 23) (tgt := 79) hc dX0_start_20 rfl rfl ?_ ?_
    · exact w_return hc hq dX0_start_79 rfl rfl
    · refine w_iload_n (q := 24) (i := 2) (j := 1) hc dX0_start_23 rfl rfl rfl ?_
      refine w_bipush (q := 26) hc dX0_start_24 cb_16 rfl ?_
      refine w_imul (q := 27) hc dX0_start_26  rfl ?_
      refine w_iload_n (q := 28) (i := 2) (j := 1) hc dX0_start_27 rfl rfl rfl ?_
      refine w_iadd (q := 29) hc dX0_start_28  rfl ?_
      refine w_istore_nB (q := 30) (i := 3) (lv' := fun v3_7 => [(3, .int v3_7), (0, .ref cb), (2, .int v2_4)]) hc dX0_start_29 rfl (hN 3 rfl) (fun _ => rfl) rfl (fun v3_7 => ?_)
      refine w_aload_n (q := 31) (i := 0) (j := 1) hc dX0_start_30 rfl rfl rfl ?_
      refine gf_X0_19 (q := 34) hc dX0_start_31 (kc_0 hK hcb) (rc_2 hR hcb) rfl ?_
      refine w_iload_n (q := 35) (i := 2) (j := 2) hc dX0_start_34 rfl rfl rfl ?_
      refine w_iconst (q := 36) hc dX0_start_35 ci_1 rfl ?_
      refine w_iload_n (q := 37) (i := 2) (j := 2) hc dX0_start_36 rfl rfl rfl ?_
      refine w_ishl (q := 38) hc dX0_start_37  rfl ?_
      refine w_iast (q := 39) hc dX0_start_38 (kc_1 hK hcb) rfl (fun I_8 => ?_)
      refine w_aload_n (q := 40) (i := 0) (j := 1) hc dX0_start_39 rfl rfl rfl ?_
      refine gf_X0_23 (q := 43) hc dX0_start_40 (kc_0 hK hcb) (rc_3 hR hcb) rfl ?_
      refine w_iload_n (q := 44) (i := 3) (j := 0) hc dX0_start_43 rfl rfl rfl ?_
      refine w_aload_n (q := 45) (i := 0) (j := 1) hc dX0_start_44 rfl rfl rfl ?_
      refine gf_X0_15 (q := 48) hc dX0_start_45 (kc_0 hK hcb) rfl ?_
      refine w_last (q := 49) hc dX0_start_48 (kc_2 hK hcb) rfl (fun L_9 => ?_)
      refine w_aload_n (q := 50) (i := 0) (j := 1) hc dX0_start_49 rfl rfl rfl ?_
      refine gf_X0_27 (q := 53) hc dX0_start_50 (kc_0 hK hcb) (rc_4 hR hcb) rfl ?_
      refine w_iload_n (q := 54) (i := 3) (j := 0) hc dX0_start_53 rfl rfl rfl ?_
      refine w_aload_n (q := 55) (i := 0) (j := 1) hc dX0_start_54 rfl rfl rfl ?_
      refine gf_X0_15 (q := 58) hc dX0_start_55 (kc_0 hK hcb) rfl ?_
      refine w_last (q := 59) hc dX0_start_58 (kc_3 hK hcb) rfl (fun L_10 => ?_)
      refine w_aload_n (q := 60) (i := 0) (j := 1) hc dX0_start_59 rfl rfl rfl ?_
      refine gf_X0_36 (q := 63) hc dX0_start_60 (kc_0 hK hcb) (rc_7 hR hcb) rfl ?_
      refine w_iload_n (q := 64) (i := 3) (j := 0) hc dX0_start_63 rfl rfl rfl ?_
      refine w_iconst (q := 65) hc dX0_start_64 ci_0 rfl ?_
      refine w_iast (q := 66) hc dX0_start_65 (kc_6 hK hcb) rfl (fun I_11 => ?_)
      refine w_aload_n (q := 67) (i := 0) (j := 1) hc dX0_start_66 rfl rfl rfl ?_
      refine gf_X0_33 (q := 70) hc dX0_start_67 (kc_0 hK hcb) (rc_6 hR hcb) rfl ?_
      refine w_iload_n (q := 71) (i := 2) (j := 2) hc dX0_start_70 rfl rfl rfl ?_
      refine w_iconst (q := 72) hc dX0_start_71 ci_0 rfl ?_
      refine w_iast (q := 73) hc dX0_start_72 (kc_5 hK hcb) rfl (fun I_12 => ?_)
      refine w_iincB (q := 76) (i := 2) (j := 2) (lv' := fun v2_13 => [(2, .int v2_13), (3, .int v3_7), (0, .ref cb)]) hc dX0_start_73 rfl ci_1 (hN 2 rfl) (fun _ => rfl) rfl (fun v2_13 => ?_)
      refine w_goto (tgt := 15) hc dX0_start_76 rfl ?_
      refine w_sub [2, 0] rfl ?_
      exact ih v2_13 I_12 L_10
set_option maxRecDepth 100000 in
set_option maxHeartbeats 4000000 in
theorem m_X0_start {l : Launch} {K : KT} {R : MR} {rm : Nat} {cb : Nat} {a1 : Int32} {I : MI} {L : ML} (hK0 : K = lK rm) (hR0 : R = lR rm) (hcb : isCh cb) : MFg l yX0_start cX0_start 4 none 1 23 [.ref cb, .int a1] K R I L anV meV (f_X0_start cb a1 I L) := by
  refine mf_of (plainFor_of_name (by decide)) (Nat.le_of_ble_eq_true rfl) ?_
  intro G hc _ hK1 hR1 hn hq
  have hK := hK1.trans hK0
  have hR := hR1.trans hR0
  have hN : ∀ i, Nat.blt i 4 = true → i < gnL G := fun i h => hn ▸ Nat.blt_eq.mp h
  unfold f_X0_start
  show WW G 0 [(0, .ref cb), (1, .int a1)] [] I L _
  refine w_aload_n (q := 1) (i := 0) (j := 0) hc dX0_start_0 rfl rfl rfl ?_
  refine w_iload_n (q := 2) (i := 1) (j := 1) hc dX0_start_1 rfl rfl rfl ?_
  refine pf_X0_11 (q := 5) hc dX0_start_2 (kc_0 hK hcb) rfl (fun I_1 => ?_)
  refine w_aload_n (q := 6) (i := 0) (j := 0) hc dX0_start_5 rfl rfl rfl ?_
  refine w_iload_n (q := 7) (i := 1) (j := 1) hc dX0_start_6 rfl rfl rfl ?_
  refine w_callS_Rl (q := 10) (st := [.ref cb]) (args := [.int a1]) hc (m_X6_identity hK hR) dX0_start_7 ml_X0_39 cf_X6_identity st_X6_identity rfl rfl (Nat.le_of_ble_eq_true rfl) ⟨Nat.le_of_ble_eq_true rfl, Nat.le_of_ble_eq_true rfl⟩ rfl (fun q_2 => ?_)
  refine pf_X0_15 (q := 13) hc dX0_start_10 (kc_0 hK hcb) rfl (fun L_3 => ?_)
  refine w_iconst (q := 14) hc dX0_start_13 ci_0 rfl ?_
  refine w_istore_n (q := 15) (i := 2) (lv' := [(2, .int 0), (0, .ref cb), (1, .int a1)]) hc dX0_start_14 rfl (hN 2 rfl) rfl rfl ?_
  refine w_sub [1, 0] rfl ?_
  exact wl_X0_start_15 cb hc hq hK hR hn hcb FU 0 I_1 L_3
set_option maxRecDepth 100000 in
set_option maxHeartbeats 4000000 in
theorem wl_X0_sift_6 {G : GT Int64} {rm : Nat} (cb : Nat) (I : MI) (L : ML) (hc : Cx G cX0_sift yX0_sift.cls (some .long) 1 29) (hq : RetQ G anL (meR I L)) (hK : gK G = lK rm) (hR : gR G = lR rm) (hn : gnL G = 8) (hcb : isCh cb) : ∀ (n : Nat) (v4_1 : Int64) (v6_2 : Int32), WW G 6 [(0, .ref cb), (4, .long v4_1), (6, .int v6_2)] [] I L (f_X0_sift_6 cb I L n v4_1 v6_2) := by
  have hN : ∀ i, Nat.blt i 8 = true → i < gnL G := fun i h => hn ▸ Nat.blt_eq.mp h
  intro n
  induction n with
  | zero => intros; exact w_none _ _ _
  | succ n ih =>
    intros v4_1 v6_2
    rw [f_X0_sift_6]
    refine w_iload (q := 8) (i := 6) (j := 2) hc dX0_sift_6 rfl rfl ?_
    refine w_aload_n (q := 9) (i := 0) (j := 0) hc dX0_sift_8 rfl rfl rfl ?_
    refine gf_X0_11 (q := 12) hc dX0_sift_9 (kc_0 hK hcb) rfl ?_
    refine w_icmpge (q := 15) (tgt := 92) hc dX0_sift_12 rfl rfl ?_ ?_
    · refine w_lload (q := 94) (i := 4) (j := 1) hc dX0_sift_92 rfl rfl ?_
      exact w_lreturn hc hq dX0_sift_94 rfl rfl
    · refine w_lload (q := 17) (i := 4) (j := 1) hc dX0_sift_15 rfl rfl ?_
      refine w_aload_n (q := 18) (i := 0) (j := 0) hc dX0_sift_17 rfl rfl rfl ?_
      refine gf_X0_15 (q := 21) hc dX0_sift_18 (kc_0 hK hcb) rfl ?_
      refine w_lcmp (q := 22) hc dX0_sift_21  rfl ?_
      refine w_ifne (q := 25) (tgt := 28) hc dX0_sift_22 rfl rfl ?_ ?_
      · refine w_lload (q := 27) (i := 4) (j := 1) hc dX0_sift_25 rfl rfl ?_
        exact w_lreturn hc hq dX0_sift_27 rfl rfl
      · refine w_lload (q := 30) (i := 4) (j := 1) hc dX0_sift_28 rfl rfl ?_
        refine w_iload (q := 32) (i := 6) (j := 2) hc dX0_sift_30 rfl rfl ?_
        refine w_callS_Ri (q := 35) (st := []) (args := [.long v4_1, .int v6_2]) hc (m_X6_image hK hR) dX0_sift_32 ml_X0_69 cf_X6_image st_X6_image rfl rfl (Nat.le_of_ble_eq_true rfl) ⟨Nat.le_of_ble_eq_true rfl, Nat.le_of_ble_eq_true rfl⟩ rfl (fun q_3 => ?_)
        refine w_istore (q := 37) (i := 7) (lv' := [(7, .int q_3), (0, .ref cb), (4, .long v4_1), (6, .int v6_2)]) hc dX0_sift_35 (hN 7 rfl) rfl rfl ?_
        refine w_aload_n (q := 38) (i := 0) (j := 1) hc dX0_sift_37 rfl rfl rfl ?_
        refine gf_X0_19 (q := 41) hc dX0_sift_38 (kc_0 hK hcb) (rc_2 hR hcb) rfl ?_
        refine w_iload (q := 43) (i := 6) (j := 3) hc dX0_sift_41 rfl rfl ?_
        refine w_iald (q := 44) hc dX0_sift_43 (kc_1 hK hcb) rfl ?_
        refine w_iload (q := 46) (i := 7) (j := 0) hc dX0_sift_44 rfl rfl ?_
        refine w_ishr (q := 47) hc dX0_sift_46  rfl ?_
        refine w_iconst (q := 48) hc dX0_sift_47 ci_1 rfl ?_
        refine w_iand (q := 49) hc dX0_sift_48  rfl ?_
        refine w_ifne (q := 52) (tgt := 55) hc dX0_sift_49 rfl rfl ?_ ?_
        · refine w_lload (q := 54) (i := 4) (j := 2) hc dX0_sift_52 rfl rfl ?_
          exact w_lreturn hc hq dX0_sift_54 rfl rfl
        · refine w_iload (q := 57) (i := 7) (j := 0) hc dX0_sift_55 rfl rfl ?_
          refine w_iload (q := 59) (i := 6) (j := 3) hc dX0_sift_57 rfl rfl ?_
          refine w_icmpeq (q := 62) (tgt := 86) hc dX0_sift_59 rfl rfl ?_ ?_
          · refine w_iincB (q := 89) (i := 6) (j := 3) (lv' := fun v6_4 => [(6, .int v6_4), (7, .int q_3), (0, .ref cb), (4, .long v4_1)]) hc dX0_sift_86 rfl ci_1 (hN 6 rfl) (fun _ => rfl) rfl (fun v6_4 => ?_)
            refine w_goto (tgt := 6) hc dX0_sift_89 rfl ?_
            refine w_sub [2, 3, 0] rfl ?_
            exact ih v4_1 v6_4
          · refine w_lload (q := 64) (i := 4) (j := 2) hc dX0_sift_62 rfl rfl ?_
            refine w_aload_n (q := 65) (i := 0) (j := 1) hc dX0_sift_64 rfl rfl rfl ?_
            refine gf_X0_27 (q := 68) hc dX0_sift_65 (kc_0 hK hcb) (rc_4 hR hcb) rfl ?_
            refine w_iload (q := 70) (i := 6) (j := 3) hc dX0_sift_68 rfl rfl ?_
            refine w_bipush (q := 72) hc dX0_sift_70 cb_16 rfl ?_
            refine w_imul (q := 73) hc dX0_sift_72  rfl ?_
            refine w_iload (q := 75) (i := 7) (j := 0) hc dX0_sift_73 rfl rfl ?_
            refine w_iadd (q := 76) hc dX0_sift_75  rfl ?_
            refine w_lald (q := 77) hc dX0_sift_76 (kc_3 hK hcb) rfl ?_
            refine w_aload_n (q := 78) (i := 0) (j := 1) hc dX0_sift_77 rfl rfl rfl ?_
            refine gf_X0_11 (q := 81) hc dX0_sift_78 (kc_0 hK hcb) rfl ?_
            refine w_callS_Rl (q := 84) (st := []) (args := [.long v4_1, .long (L (cb + 3) (ix ((v6_2 * 16) + q_3))), .int (I cb 0)]) hc (m_X6_compose hK hR) dX0_sift_81 ml_X0_72 cf_X6_compose st_X6_compose rfl rfl (Nat.le_of_ble_eq_true rfl) ⟨Nat.le_of_ble_eq_true rfl, Nat.le_of_ble_eq_true rfl⟩ rfl (fun q_5 => ?_)
            refine w_lstore (q := 86) (i := 4) (lv' := [(4, .long q_5), (7, .int q_3), (0, .ref cb), (6, .int v6_2)]) hc dX0_sift_84 (hN 5 rfl) rfl rfl ?_
            refine w_iincB (q := 89) (i := 6) (j := 3) (lv' := fun v6_6 => [(6, .int v6_6), (4, .long q_5), (7, .int q_3), (0, .ref cb)]) hc dX0_sift_86 rfl ci_1 (hN 6 rfl) (fun _ => rfl) rfl (fun v6_6 => ?_)
            refine w_goto (tgt := 6) hc dX0_sift_89 rfl ?_
            refine w_sub [3, 1, 0] rfl ?_
            exact ih q_5 v6_6
set_option maxRecDepth 100000 in
set_option maxHeartbeats 4000000 in
theorem m_X0_sift {l : Launch} {K : KT} {R : MR} {rm : Nat} {cb : Nat} {a1 : Int64} {a3 : Int32} {I : MI} {L : ML} (hK0 : K = lK rm) (hR0 : R = lR rm) (hcb : isCh cb) : MFg l yX0_sift cX0_sift 8 (some .long) 1 29 [.ref cb, .long a1, .int a3] K R I L anL (meR I L) (f_X0_sift cb a1 a3 I L) := by
  refine mf_of (plainFor_of_name (by decide)) (Nat.le_of_ble_eq_true rfl) ?_
  intro G hc _ hK1 hR1 hn hq
  have hK := hK1.trans hK0
  have hR := hR1.trans hR0
  have hN : ∀ i, Nat.blt i 8 = true → i < gnL G := fun i h => hn ▸ Nat.blt_eq.mp h
  unfold f_X0_sift
  show WW G 0 [(0, .ref cb), (1, .long a1), (3, .int a3)] [] I L _
  refine w_lload_n (q := 1) (i := 1) (j := 1) hc dX0_sift_0 rfl rfl rfl ?_
  refine w_lstore (q := 3) (i := 4) (lv' := [(4, .long a1), (0, .ref cb), (1, .long a1), (3, .int a3)]) hc dX0_sift_1 (hN 5 rfl) rfl rfl ?_
  refine w_iload_n (q := 4) (i := 3) (j := 3) hc dX0_sift_3 rfl rfl rfl ?_
  refine w_istore (q := 6) (i := 6) (lv' := [(6, .int a3), (4, .long a1), (0, .ref cb), (1, .long a1), (3, .int a3)]) hc dX0_sift_4 (hN 6 rfl) rfl rfl ?_
  refine w_sub [2, 1, 0] rfl ?_
  exact wl_X0_sift_6 cb I L hc hq hK hR hn hcb FU a1 a3
set_option maxRecDepth 100000 in
set_option maxHeartbeats 4000000 in
theorem wl_X0_firstMoved_2 {G : GT Int32} {rm : Nat} (cb : Nat) (v1_1 : Int64) (I : MI) (L : ML) (hc : Cx G cX0_firstMoved yX0_firstMoved.cls (some .int) 1 22) (hq : RetQ G anI (meR I L)) (hK : gK G = lK rm) (hR : gR G = lR rm) (hn : gnL G = 4) (hcb : isCh cb) : ∀ (n : Nat) (v3_2 : Int32), WW G 2 [(0, .ref cb), (1, .long v1_1), (3, .int v3_2)] [] I L (f_X0_firstMoved_2 cb v1_1 I L n v3_2) := by
  have hN : ∀ i, Nat.blt i 4 = true → i < gnL G := fun i h => hn ▸ Nat.blt_eq.mp h
  intro n
  induction n with
  | zero => intros; exact w_none _ _ _
  | succ n ih =>
    intros v3_2
    rw [f_X0_firstMoved_2]
    refine w_iload_n (q := 3) (i := 3) (j := 2) hc dX0_firstMoved_2 rfl rfl rfl ?_
    refine w_aload_n (q := 4) (i := 0) (j := 0) hc dX0_firstMoved_3 rfl rfl rfl ?_
    refine gf_X0_11 (q := 7) hc dX0_firstMoved_4 (kc_0 hK hcb) rfl ?_
    refine w_icmpge (q := 10) (tgt := 27) hc dX0_firstMoved_7 rfl rfl ?_ ?_
    · refine w_aload_n (q := 28) (i := 0) (j := 0) hc dX0_firstMoved_27 rfl rfl rfl ?_
      refine gf_X0_11 (q := 31) hc dX0_firstMoved_28 (kc_0 hK hcb) rfl ?_
      exact w_ireturn (v := (I cb 0)) hc hq dX0_firstMoved_31 rfl rfl rfl
    · refine w_lload_n (q := 11) (i := 1) (j := 1) hc dX0_firstMoved_10 rfl rfl rfl ?_
      refine w_iload_n (q := 12) (i := 3) (j := 2) hc dX0_firstMoved_11 rfl rfl rfl ?_
      refine w_callS_Ri (q := 15) (st := []) (args := [.long v1_1, .int v3_2]) hc (m_X6_image hK hR) dX0_firstMoved_12 ml_X0_69 cf_X6_image st_X6_image rfl rfl (Nat.le_of_ble_eq_true rfl) ⟨Nat.le_of_ble_eq_true rfl, Nat.le_of_ble_eq_true rfl⟩ rfl (fun q_3 => ?_)
      refine w_iload_n (q := 16) (i := 3) (j := 2) hc dX0_firstMoved_15 rfl rfl rfl ?_
      refine w_icmpeq (q := 19) (tgt := 21) hc dX0_firstMoved_16 rfl rfl ?_ ?_
      · refine w_iincB (q := 24) (i := 3) (j := 2) (lv' := fun v3_4 => [(3, .int v3_4), (0, .ref cb), (1, .long v1_1)]) hc dX0_firstMoved_21 rfl ci_1 (hN 3 rfl) (fun _ => rfl) rfl (fun v3_4 => ?_)
        refine w_goto (tgt := 2) hc dX0_firstMoved_24 rfl ?_
        refine w_sub [1, 2, 0] rfl ?_
        exact ih v3_4
      · refine w_iload_n (q := 20) (i := 3) (j := 2) hc dX0_firstMoved_19 rfl rfl rfl ?_
        exact w_ireturn (v := v3_2) hc hq dX0_firstMoved_20 rfl rfl rfl
set_option maxRecDepth 100000 in
set_option maxHeartbeats 4000000 in
theorem m_X0_firstMoved {l : Launch} {K : KT} {R : MR} {rm : Nat} {cb : Nat} {a1 : Int64} {I : MI} {L : ML} (hK0 : K = lK rm) (hR0 : R = lR rm) (hcb : isCh cb) : MFg l yX0_firstMoved cX0_firstMoved 4 (some .int) 1 22 [.ref cb, .long a1] K R I L anI (meR I L) (f_X0_firstMoved cb a1 I L) := by
  refine mf_of (plainFor_of_name (by decide)) (Nat.le_of_ble_eq_true rfl) ?_
  intro G hc _ hK1 hR1 hn hq
  have hK := hK1.trans hK0
  have hR := hR1.trans hR0
  have hN : ∀ i, Nat.blt i 4 = true → i < gnL G := fun i h => hn ▸ Nat.blt_eq.mp h
  unfold f_X0_firstMoved
  show WW G 0 [(0, .ref cb), (1, .long a1)] [] I L _
  refine w_iconst (q := 1) hc dX0_firstMoved_0 ci_0 rfl ?_
  refine w_istore_n (q := 2) (i := 3) (lv' := [(3, .int 0), (0, .ref cb), (1, .long a1)]) hc dX0_firstMoved_1 rfl (hN 3 rfl) rfl rfl ?_
  refine w_sub [1, 2, 0] rfl ?_
  exact wl_X0_firstMoved_2 cb a1 I L hc hq hK hR hn hcb FU 0
set_option maxRecDepth 100000 in
set_option maxHeartbeats 4000000 in
theorem wl_X0_insert_19 {G : GT (Int32 × Mm)} {rm : Nat} (cb : Nat) (v1_3 : Int64) (v4_4 : Int32) (hc : Cx G cX0_insert yX0_insert.cls (some .int) 2 45) (hq : RetQ G anIW meW) (hK : gK G = lK rm) (hR : gR G = lR rm) (hn : gnL G = 6) (hcb : isCh cb) : ∀ (n : Nat) (v5_5 : Int32) (I_6 : MI) (L_7 : ML), WW G 19 [(0, .ref cb), (1, .long v1_3), (4, .int v4_4), (5, .int v5_5)] [] I_6 L_7 (f_X0_insert_19 cb v1_3 v4_4 n v5_5 I_6 L_7) := by
  have hN : ∀ i, Nat.blt i 6 = true → i < gnL G := fun i h => hn ▸ Nat.blt_eq.mp h
  intro n
  induction n with
  | zero => intros; exact w_none _ _ _
  | succ n ih =>
    intros v5_5 I_6 L_7
    rw [f_X0_insert_19]
    refine w_iload (q := 21) (i := 5) (j := 3) hc dX0_insert_19 rfl rfl ?_
    refine w_iload (q := 23) (i := 4) (j := 2) hc dX0_insert_21 rfl rfl ?_
    refine w_icmpgt (q := 26) (tgt := 74) hc dX0_insert_23 rfl rfl ?_ ?_
    · refine w_iload (q := 76) (i := 4) (j := 2) hc dX0_insert_74 rfl rfl ?_
      exact w_ireturn (v := v4_4) hc hq dX0_insert_76 rfl rfl rfl
    · refine w_aload_n (q := 27) (i := 0) (j := 0) hc dX0_insert_26 rfl rfl rfl ?_
      refine gf_X0_33 (q := 30) hc dX0_insert_27 (kc_0 hK hcb) (rc_6 hR hcb) rfl ?_
      refine w_iload (q := 32) (i := 5) (j := 3) hc dX0_insert_30 rfl rfl ?_
      refine w_iald (q := 33) hc dX0_insert_32 (kc_5 hK hcb) rfl ?_
      refine w_bipush (q := 35) hc dX0_insert_33 cb_16 rfl ?_
      refine w_icmpge (q := 38) (tgt := 68) hc dX0_insert_35 rfl rfl ?_ ?_
      · refine w_iincB (q := 71) (i := 5) (j := 3) (lv' := fun v5_8 => [(5, .int v5_8), (0, .ref cb), (1, .long v1_3), (4, .int v4_4)]) hc dX0_insert_68 rfl ci_1 (hN 5 rfl) (fun _ => rfl) rfl (fun v5_8 => ?_)
        refine w_goto (tgt := 19) hc dX0_insert_71 rfl ?_
        refine w_sub [1, 2, 3, 0] rfl ?_
        exact ih v5_8 I_6 L_7
      · refine w_aload_n (q := 39) (i := 0) (j := 0) hc dX0_insert_38 rfl rfl rfl ?_
        refine gf_X0_30 (q := 42) hc dX0_insert_39 (kc_0 hK hcb) (rc_5 hR hcb) rfl ?_
        refine w_iload (q := 44) (i := 5) (j := 3) hc dX0_insert_42 rfl rfl ?_
        refine w_bipush (q := 46) hc dX0_insert_44 cb_16 rfl ?_
        refine w_imul (q := 47) hc dX0_insert_46  rfl ?_
        refine w_aload_n (q := 48) (i := 0) (j := 0) hc dX0_insert_47 rfl rfl rfl ?_
        refine gf_X0_33 (q := 51) hc dX0_insert_48 (kc_0 hK hcb) (rc_6 hR hcb) rfl ?_
        refine w_iload (q := 53) (i := 5) (j := 3) hc dX0_insert_51 rfl rfl ?_
        refine w_iald (q := 54) hc dX0_insert_53 (kc_5 hK hcb) rfl ?_
        refine w_iadd (q := 55) hc dX0_insert_54  rfl ?_
        refine w_lload_n (q := 56) (i := 1) (j := 1) hc dX0_insert_55 rfl rfl rfl ?_
        refine w_last (q := 57) hc dX0_insert_56 (kc_4 hK hcb) rfl (fun L_9 => ?_)
        refine w_aload_n (q := 58) (i := 0) (j := 0) hc dX0_insert_57 rfl rfl rfl ?_
        refine gf_X0_33 (q := 61) hc dX0_insert_58 (kc_0 hK hcb) (rc_6 hR hcb) rfl ?_
        refine w_iload (q := 63) (i := 5) (j := 3) hc dX0_insert_61 rfl rfl ?_
        refine w_dup2_rr (q := 64) hc dX0_insert_63  rfl ?_
        refine w_iald (q := 65) hc dX0_insert_64 (kc_5 hK hcb) rfl ?_
        refine w_iconst (q := 66) hc dX0_insert_65 ci_1 rfl ?_
        refine w_iadd (q := 67) hc dX0_insert_66  rfl ?_
        refine w_iast (q := 68) hc dX0_insert_67 (kc_5 hK hcb) rfl (fun I_10 => ?_)
        refine w_iincB (q := 71) (i := 5) (j := 3) (lv' := fun v5_11 => [(5, .int v5_11), (0, .ref cb), (1, .long v1_3), (4, .int v4_4)]) hc dX0_insert_68 rfl ci_1 (hN 5 rfl) (fun _ => rfl) rfl (fun v5_11 => ?_)
        refine w_goto (tgt := 19) hc dX0_insert_71 rfl ?_
        refine w_sub [1, 2, 3, 0] rfl ?_
        exact ih v5_11 I_10 L_9
set_option maxRecDepth 100000 in
set_option maxHeartbeats 4000000 in
theorem m_X0_insert {l : Launch} {K : KT} {R : MR} {rm : Nat} {cb : Nat} {a1 : Int64} {a3 : Int32} {I : MI} {L : ML} (hK0 : K = lK rm) (hR0 : R = lR rm) (hcb : isCh cb) : MFg l yX0_insert cX0_insert 6 (some .int) 2 45 [.ref cb, .long a1, .int a3] K R I L anIW meW (f_X0_insert cb a1 a3 I L) := by
  refine mf_of (plainFor_of_name (by decide)) (Nat.le_of_ble_eq_true rfl) ?_
  intro G hc _ hK1 hR1 hn hq
  have hK := hK1.trans hK0
  have hR := hR1.trans hR0
  have hN : ∀ i, Nat.blt i 6 = true → i < gnL G := fun i h => hn ▸ Nat.blt_eq.mp h
  unfold f_X0_insert
  show WW G 0 [(0, .ref cb), (1, .long a1), (3, .int a3)] [] I L _
  refine w_aload_n (q := 1) (i := 0) (j := 0) hc dX0_insert_0 rfl rfl rfl ?_
  refine w_lload_n (q := 2) (i := 1) (j := 1) hc dX0_insert_1 rfl rfl rfl ?_
  refine w_callV_Ri (q := 5) (st := []) (args := [.long a1]) (p := cb) hc (m_X0_firstMoved hK hR hcb) dX0_insert_2 ml_X0_76 cf_X0_firstMoved iv_X0_firstMoved (kc_0 hK hcb) (C := RX0) (T := TX0) (N := 8) rfl rfl (Nat.lt_of_succ_le (Nat.le_of_ble_eq_true rfl)) rfl rfl (Nat.le_of_ble_eq_true rfl) ⟨Nat.le_of_ble_eq_true rfl, Nat.le_of_ble_eq_true rfl⟩ rfl (fun q_1 => ?_)
  refine w_aload_n (q := 6) (i := 0) (j := 0) hc dX0_insert_5 rfl rfl rfl ?_
  refine gf_X0_11 (q := 9) hc dX0_insert_6 (kc_0 hK hcb) rfl ?_
  refine w_iconst (q := 10) hc dX0_insert_9 ci_1 rfl ?_
  refine w_isub (q := 11) hc dX0_insert_10  rfl ?_
  refine w_min (q := 14) (st := []) hc dX0_insert_11 ml_X0_80 (Nat.le_of_ble_eq_true rfl) (Nat.le_of_ble_eq_true rfl) (Nat.le_of_ble_eq_true rfl) rfl ?_
  refine w_istoreB (q := 16) (i := 4) (lv' := fun v4_2 => [(4, .int v4_2), (0, .ref cb), (1, .long a1), (3, .int a3)]) hc dX0_insert_14 (hN 4 rfl) (fun _ => rfl) rfl (fun v4_2 => ?_)
  refine w_iload_n (q := 17) (i := 3) (j := 3) hc dX0_insert_16 rfl rfl rfl ?_
  refine w_istore (q := 19) (i := 5) (lv' := [(5, .int a3), (4, .int v4_2), (0, .ref cb), (1, .long a1), (3, .int a3)]) hc dX0_insert_17 (hN 5 rfl) rfl rfl ?_
  refine w_sub [2, 3, 1, 0] rfl ?_
  exact wl_X0_insert_19 cb a1 v4_2 hc hq hK hR hn hcb FU a3 I L
set_option maxRecDepth 100000 in
set_option maxHeartbeats 4000000 in
theorem wl_X0_untried_2 {G : GT Int32} {rm : Nat} (cb : Nat) (v1_1 : Int32) (I : MI) (L : ML) (hc : Cx G cX0_untried yX0_untried.cls (some .int) 0 0) (hq : RetQ G anI (meR I L)) (hK : gK G = lK rm) (hR : gR G = lR rm) (hn : gnL G = 3) (hcb : isCh cb) : ∀ (n : Nat) (v2_2 : Int32), WW G 2 [(0, .ref cb), (1, .int v1_1), (2, .int v2_2)] [] I L (f_X0_untried_2 cb v1_1 I L n v2_2) := by
  have hN : ∀ i, Nat.blt i 3 = true → i < gnL G := fun i h => hn ▸ Nat.blt_eq.mp h
  intro n
  induction n with
  | zero => intros; exact w_none _ _ _
  | succ n ih =>
    intros v2_2
    rw [f_X0_untried_2]
    refine w_iload_n (q := 3) (i := 2) (j := 2) hc dX0_untried_2 rfl rfl rfl ?_
    refine w_aload_n (q := 4) (i := 0) (j := 0) hc dX0_untried_3 rfl rfl rfl ?_
    refine gf_X0_11 (q := 7) hc dX0_untried_4 (kc_0 hK hcb) rfl ?_
    refine w_icmpge (q := 10) (tgt := 51) hc dX0_untried_7 rfl rfl ?_ ?_
    · refine w_iconst (q := 52) hc dX0_untried_51 ci_m1 rfl ?_
      exact w_ireturn (v := (-1)) hc hq dX0_untried_52 rfl rfl rfl
    · refine w_aload_n (q := 11) (i := 0) (j := 0) hc dX0_untried_10 rfl rfl rfl ?_
      refine gf_X0_19 (q := 14) hc dX0_untried_11 (kc_0 hK hcb) (rc_2 hR hcb) rfl ?_
      refine w_iload_n (q := 15) (i := 1) (j := 1) hc dX0_untried_14 rfl rfl rfl ?_
      refine w_iald (q := 16) hc dX0_untried_15 (kc_1 hK hcb) rfl ?_
      refine w_iload_n (q := 17) (i := 2) (j := 2) hc dX0_untried_16 rfl rfl rfl ?_
      refine w_ishr (q := 18) hc dX0_untried_17  rfl ?_
      refine w_iconst (q := 19) hc dX0_untried_18 ci_1 rfl ?_
      refine w_iand (q := 20) hc dX0_untried_19  rfl ?_
      refine w_ifeq (q := 23) (tgt := 45) hc dX0_untried_20 rfl rfl ?_ ?_
      · refine w_iincB (q := 48) (i := 2) (j := 2) (lv' := fun v2_3 => [(2, .int v2_3), (0, .ref cb), (1, .int v1_1)]) hc dX0_untried_45 rfl ci_1 (hN 2 rfl) (fun _ => rfl) rfl (fun v2_3 => ?_)
        refine w_goto (tgt := 2) hc dX0_untried_48 rfl ?_
        refine w_sub [1, 2, 0] rfl ?_
        exact ih v2_3
      · refine w_aload_n (q := 24) (i := 0) (j := 0) hc dX0_untried_23 rfl rfl rfl ?_
        refine gf_X0_36 (q := 27) hc dX0_untried_24 (kc_0 hK hcb) (rc_7 hR hcb) rfl ?_
        refine w_iload_n (q := 28) (i := 1) (j := 1) hc dX0_untried_27 rfl rfl rfl ?_
        refine w_bipush (q := 30) hc dX0_untried_28 cb_16 rfl ?_
        refine w_imul (q := 31) hc dX0_untried_30  rfl ?_
        refine w_iload_n (q := 32) (i := 2) (j := 2) hc dX0_untried_31 rfl rfl rfl ?_
        refine w_iadd (q := 33) hc dX0_untried_32  rfl ?_
        refine w_iald (q := 34) hc dX0_untried_33 (kc_6 hK hcb) rfl ?_
        refine w_aload_n (q := 35) (i := 0) (j := 0) hc dX0_untried_34 rfl rfl rfl ?_
        refine gf_X0_33 (q := 38) hc dX0_untried_35 (kc_0 hK hcb) (rc_6 hR hcb) rfl ?_
        refine w_iload_n (q := 39) (i := 1) (j := 1) hc dX0_untried_38 rfl rfl rfl ?_
        refine w_iald (q := 40) hc dX0_untried_39 (kc_5 hK hcb) rfl ?_
        refine w_icmpge (q := 43) (tgt := 45) hc dX0_untried_40 rfl rfl ?_ ?_
        · refine w_iincB (q := 48) (i := 2) (j := 2) (lv' := fun v2_4 => [(2, .int v2_4), (0, .ref cb), (1, .int v1_1)]) hc dX0_untried_45 rfl ci_1 (hN 2 rfl) (fun _ => rfl) rfl (fun v2_4 => ?_)
          refine w_goto (tgt := 2) hc dX0_untried_48 rfl ?_
          refine w_sub [1, 2, 0] rfl ?_
          exact ih v2_4
        · refine w_iload_n (q := 44) (i := 2) (j := 2) hc dX0_untried_43 rfl rfl rfl ?_
          exact w_ireturn (v := v2_2) hc hq dX0_untried_44 rfl rfl rfl
set_option maxRecDepth 100000 in
set_option maxHeartbeats 4000000 in
theorem m_X0_untried {l : Launch} {K : KT} {R : MR} {rm : Nat} {cb : Nat} {a1 : Int32} {I : MI} {L : ML} (hK0 : K = lK rm) (hR0 : R = lR rm) (hcb : isCh cb) : MFg l yX0_untried cX0_untried 3 (some .int) 0 0 [.ref cb, .int a1] K R I L anI (meR I L) (f_X0_untried cb a1 I L) := by
  refine mf_of (plainFor_of_name (by decide)) (Nat.le_of_ble_eq_true rfl) ?_
  intro G hc _ hK1 hR1 hn hq
  have hK := hK1.trans hK0
  have hR := hR1.trans hR0
  have hN : ∀ i, Nat.blt i 3 = true → i < gnL G := fun i h => hn ▸ Nat.blt_eq.mp h
  unfold f_X0_untried
  show WW G 0 [(0, .ref cb), (1, .int a1)] [] I L _
  refine w_iload_n (q := 1) (i := 1) (j := 1) hc dX0_untried_0 rfl rfl rfl ?_
  refine w_istore_n (q := 2) (i := 2) (lv' := [(2, .int a1), (0, .ref cb), (1, .int a1)]) hc dX0_untried_1 rfl (hN 2 rfl) rfl rfl ?_
  refine w_sub [1, 2, 0] rfl ?_
  exact wl_X0_untried_2 cb a1 I L hc hq hK hR hn hcb FU a1
set_option maxRecDepth 100000 in
set_option maxHeartbeats 4000000 in
theorem m_X0_tryMaker {l : Launch} {K : KT} {R : MR} {rm : Nat} {cb : Nat} {a1 : Int32} {a2 : Int32} {I : MI} {L : ML} (hK0 : K = lK rm) (hR0 : R = lR rm) (hcb : isCh cb) : MFg l yX0_tryMaker cX0_tryMaker 10 (some .long) 2 56 [.ref cb, .int a1, .int a2] K R I L anLW meW (f_X0_tryMaker cb a1 a2 I L) := by
  refine mf_of (plainFor_of_name (by decide)) (Nat.le_of_ble_eq_true rfl) ?_
  intro G hc _ hK1 hR1 hn hq
  have hK := hK1.trans hK0
  have hR := hR1.trans hR0
  have hN : ∀ i, Nat.blt i 10 = true → i < gnL G := fun i h => hn ▸ Nat.blt_eq.mp h
  unfold f_X0_tryMaker
  show WW G 0 [(0, .ref cb), (1, .int a1), (2, .int a2)] [] I L _
  refine w_iload_n (q := 1) (i := 1) (j := 1) hc dX0_tryMaker_0 rfl rfl rfl ?_
  refine w_bipush (q := 3) hc dX0_tryMaker_1 cb_16 rfl ?_
  refine w_imul (q := 4) hc dX0_tryMaker_3  rfl ?_
  refine w_iload_n (q := 5) (i := 2) (j := 2) hc dX0_tryMaker_4 rfl rfl rfl ?_
  refine w_iadd (q := 6) hc dX0_tryMaker_5  rfl ?_
  refine w_istore_nB (q := 7) (i := 3) (lv' := fun v3_1 => [(3, .int v3_1), (0, .ref cb), (1, .int a1), (2, .int a2)]) hc dX0_tryMaker_6 rfl (hN 3 rfl) (fun _ => rfl) rfl (fun v3_1 => ?_)
  refine w_aload_n (q := 8) (i := 0) (j := 1) hc dX0_tryMaker_7 rfl rfl rfl ?_
  refine gf_X0_30 (q := 11) hc dX0_tryMaker_8 (kc_0 hK hcb) (rc_5 hR hcb) rfl ?_
  refine w_iload_n (q := 12) (i := 1) (j := 2) hc dX0_tryMaker_11 rfl rfl rfl ?_
  refine w_bipush (q := 14) hc dX0_tryMaker_12 cb_16 rfl ?_
  refine w_imul (q := 15) hc dX0_tryMaker_14  rfl ?_
  refine w_aload_n (q := 16) (i := 0) (j := 1) hc dX0_tryMaker_15 rfl rfl rfl ?_
  refine gf_X0_36 (q := 19) hc dX0_tryMaker_16 (kc_0 hK hcb) (rc_7 hR hcb) rfl ?_
  refine w_iload_n (q := 20) (i := 3) (j := 0) hc dX0_tryMaker_19 rfl rfl rfl ?_
  refine w_iald (q := 21) hc dX0_tryMaker_20 (kc_6 hK hcb) rfl ?_
  refine w_iadd (q := 22) hc dX0_tryMaker_21  rfl ?_
  refine w_lald (q := 23) hc dX0_tryMaker_22 (kc_4 hK hcb) rfl ?_
  refine w_lstoreB (q := 25) (i := 4) (lv' := fun v4_2 => [(4, .long v4_2), (3, .int v3_1), (0, .ref cb), (1, .int a1), (2, .int a2)]) hc dX0_tryMaker_23 (hN 5 rfl) (fun _ => rfl) rfl (fun v4_2 => ?_)
  refine w_aload_n (q := 26) (i := 0) (j := 2) hc dX0_tryMaker_25 rfl rfl rfl ?_
  refine gf_X0_36 (q := 29) hc dX0_tryMaker_26 (kc_0 hK hcb) (rc_7 hR hcb) rfl ?_
  refine w_iload_n (q := 30) (i := 3) (j := 1) hc dX0_tryMaker_29 rfl rfl rfl ?_
  refine w_dup2_rr (q := 31) hc dX0_tryMaker_30  rfl ?_
  refine w_iald (q := 32) hc dX0_tryMaker_31 (kc_6 hK hcb) rfl ?_
  refine w_iconst (q := 33) hc dX0_tryMaker_32 ci_1 rfl ?_
  refine w_iadd (q := 34) hc dX0_tryMaker_33  rfl ?_
  refine w_iast (q := 35) hc dX0_tryMaker_34 (kc_6 hK hcb) rfl (fun I_3 => ?_)
  refine w_lload (q := 37) (i := 4) (j := 0) hc dX0_tryMaker_35 rfl rfl ?_
  refine w_iload_n (q := 38) (i := 2) (j := 4) hc dX0_tryMaker_37 rfl rfl rfl ?_
  refine w_callS_Ri (q := 41) (st := []) (args := [.long v4_2, .int a2]) hc (m_X6_image hK hR) dX0_tryMaker_38 ml_X0_69 cf_X6_image st_X6_image rfl rfl (Nat.le_of_ble_eq_true rfl) ⟨Nat.le_of_ble_eq_true rfl, Nat.le_of_ble_eq_true rfl⟩ rfl (fun q_4 => ?_)
  refine w_istore (q := 43) (i := 6) (lv' := [(6, .int q_4), (4, .long v4_2), (3, .int v3_1), (0, .ref cb), (1, .int a1), (2, .int a2)]) hc dX0_tryMaker_41 (hN 6 rfl) rfl rfl ?_
  refine w_iload_n (q := 44) (i := 1) (j := 4) hc dX0_tryMaker_43 rfl rfl rfl ?_
  refine w_bipush (q := 46) hc dX0_tryMaker_44 cb_16 rfl ?_
  refine w_imul (q := 47) hc dX0_tryMaker_46  rfl ?_
  refine w_iload (q := 49) (i := 6) (j := 0) hc dX0_tryMaker_47 rfl rfl ?_
  refine w_iadd (q := 50) hc dX0_tryMaker_49  rfl ?_
  refine w_istoreB (q := 52) (i := 7) (lv' := fun v7_5 => [(7, .int v7_5), (6, .int q_4), (4, .long v4_2), (3, .int v3_1), (0, .ref cb), (1, .int a1), (2, .int a2)]) hc dX0_tryMaker_50 (hN 7 rfl) (fun _ => rfl) rfl (fun v7_5 => ?_)
  refine w_aload_n (q := 53) (i := 0) (j := 4) hc dX0_tryMaker_52 rfl rfl rfl ?_
  refine gf_X0_23 (q := 56) hc dX0_tryMaker_53 (kc_0 hK hcb) (rc_3 hR hcb) rfl ?_
  refine w_iload_n (q := 57) (i := 3) (j := 3) hc dX0_tryMaker_56 rfl rfl rfl ?_
  refine w_lald (q := 58) hc dX0_tryMaker_57 (kc_2 hK hcb) rfl ?_
  refine w_lload (q := 60) (i := 4) (j := 2) hc dX0_tryMaker_58 rfl rfl ?_
  refine w_aload_n (q := 61) (i := 0) (j := 4) hc dX0_tryMaker_60 rfl rfl rfl ?_
  refine gf_X0_11 (q := 64) hc dX0_tryMaker_61 (kc_0 hK hcb) rfl ?_
  refine w_callS_Rl (q := 67) (st := []) (args := [.long (L (cb + 2) (ix v3_1)), .long v4_2, .int (I_3 cb 0)]) hc (m_X6_compose hK hR) dX0_tryMaker_64 ml_X0_72 cf_X6_compose st_X6_compose rfl rfl (Nat.le_of_ble_eq_true rfl) ⟨Nat.le_of_ble_eq_true rfl, Nat.le_of_ble_eq_true rfl⟩ rfl (fun q_6 => ?_)
  refine w_lstore (q := 69) (i := 8) (lv' := [(8, .long q_6), (7, .int v7_5), (6, .int q_4), (4, .long v4_2), (3, .int v3_1), (0, .ref cb), (1, .int a1), (2, .int a2)]) hc dX0_tryMaker_67 (hN 9 rfl) rfl rfl ?_
  refine w_aload_n (q := 70) (i := 0) (j := 5) hc dX0_tryMaker_69 rfl rfl rfl ?_
  refine gf_X0_19 (q := 73) hc dX0_tryMaker_70 (kc_0 hK hcb) (rc_2 hR hcb) rfl ?_
  refine w_iload_n (q := 74) (i := 1) (j := 6) hc dX0_tryMaker_73 rfl rfl rfl ?_
  refine w_iald (q := 75) hc dX0_tryMaker_74 (kc_1 hK hcb) rfl ?_
  refine w_iload (q := 77) (i := 6) (j := 2) hc dX0_tryMaker_75 rfl rfl ?_
  refine w_ishr (q := 78) hc dX0_tryMaker_77  rfl ?_
  refine w_iconst (q := 79) hc dX0_tryMaker_78 ci_1 rfl ?_
  refine w_iand (q := 80) hc dX0_tryMaker_79  rfl ?_
  refine w_ifne (q := 83) (tgt := 134) hc dX0_tryMaker_80 rfl rfl ?_ ?_
  · refine w_aload_n (q := 84) (i := 0) (j := 5) hc dX0_tryMaker_83 rfl rfl rfl ?_
    refine gf_X0_19 (q := 87) hc dX0_tryMaker_84 (kc_0 hK hcb) (rc_2 hR hcb) rfl ?_
    refine w_iload_n (q := 88) (i := 1) (j := 6) hc dX0_tryMaker_87 rfl rfl rfl ?_
    refine w_dup2_rr (q := 89) hc dX0_tryMaker_88  rfl ?_
    refine w_iald (q := 90) hc dX0_tryMaker_89 (kc_1 hK hcb) rfl ?_
    refine w_iconst (q := 91) hc dX0_tryMaker_90 ci_1 rfl ?_
    refine w_iload (q := 93) (i := 6) (j := 2) hc dX0_tryMaker_91 rfl rfl ?_
    refine w_ishl (q := 94) hc dX0_tryMaker_93  rfl ?_
    refine w_ior (q := 95) hc dX0_tryMaker_94  rfl ?_
    refine w_iast (q := 96) hc dX0_tryMaker_95 (kc_1 hK hcb) rfl (fun I_9 => ?_)
    refine w_aload_n (q := 97) (i := 0) (j := 5) hc dX0_tryMaker_96 rfl rfl rfl ?_
    refine gf_X0_23 (q := 100) hc dX0_tryMaker_97 (kc_0 hK hcb) (rc_3 hR hcb) rfl ?_
    refine w_iload (q := 102) (i := 7) (j := 1) hc dX0_tryMaker_100 rfl rfl ?_
    refine w_lload (q := 104) (i := 8) (j := 0) hc dX0_tryMaker_102 rfl rfl ?_
    refine w_last (q := 105) hc dX0_tryMaker_104 (kc_2 hK hcb) rfl (fun L_10 => ?_)
    refine w_aload_n (q := 106) (i := 0) (j := 5) hc dX0_tryMaker_105 rfl rfl rfl ?_
    refine gf_X0_27 (q := 109) hc dX0_tryMaker_106 (kc_0 hK hcb) (rc_4 hR hcb) rfl ?_
    refine w_iload (q := 111) (i := 7) (j := 1) hc dX0_tryMaker_109 rfl rfl ?_
    refine w_lload (q := 113) (i := 8) (j := 0) hc dX0_tryMaker_111 rfl rfl ?_
    refine w_aload_n (q := 114) (i := 0) (j := 5) hc dX0_tryMaker_113 rfl rfl rfl ?_
    refine gf_X0_11 (q := 117) hc dX0_tryMaker_114 (kc_0 hK hcb) rfl ?_
    refine w_callS_Rl (q := 120) (st := [.int v7_5, .ref (cb + 3)]) (args := [.long q_6, .int (I_9 cb 0)]) hc (m_X6_invert hK hR) dX0_tryMaker_117 ml_X0_86 cf_X6_invert st_X6_invert rfl rfl (Nat.le_of_ble_eq_true rfl) ⟨Nat.le_of_ble_eq_true rfl, Nat.le_of_ble_eq_true rfl⟩ rfl (fun q_11 => ?_)
    refine w_last (q := 121) hc dX0_tryMaker_120 (kc_3 hK hcb) rfl (fun L_12 => ?_)
    refine w_aload_n (q := 122) (i := 0) (j := 5) hc dX0_tryMaker_121 rfl rfl rfl ?_
    refine gf_X0_36 (q := 125) hc dX0_tryMaker_122 (kc_0 hK hcb) (rc_7 hR hcb) rfl ?_
    refine w_iload (q := 127) (i := 7) (j := 1) hc dX0_tryMaker_125 rfl rfl ?_
    refine w_iconst (q := 128) hc dX0_tryMaker_127 ci_0 rfl ?_
    refine w_iast (q := 129) hc dX0_tryMaker_128 (kc_6 hK hcb) rfl (fun I_13 => ?_)
    refine w_aload_n (q := 130) (i := 0) (j := 5) hc dX0_tryMaker_129 rfl rfl rfl ?_
    refine gf_X0_15 (q := 133) hc dX0_tryMaker_130 (kc_0 hK hcb) rfl ?_
    exact w_lreturn hc hq dX0_tryMaker_133 rfl rfl
  · refine w_lload (q := 136) (i := 8) (j := 0) hc dX0_tryMaker_134 rfl rfl ?_
    refine w_aload_n (q := 137) (i := 0) (j := 5) hc dX0_tryMaker_136 rfl rfl rfl ?_
    refine gf_X0_23 (q := 140) hc dX0_tryMaker_137 (kc_0 hK hcb) (rc_3 hR hcb) rfl ?_
    refine w_iload (q := 142) (i := 7) (j := 1) hc dX0_tryMaker_140 rfl rfl ?_
    refine w_lald (q := 143) hc dX0_tryMaker_142 (kc_2 hK hcb) rfl ?_
    refine w_lcmp (q := 144) hc dX0_tryMaker_143  rfl ?_
    refine w_ifne (q := 147) (tgt := 152) hc dX0_tryMaker_144 rfl rfl ?_ ?_
    · refine w_aload_n (q := 148) (i := 0) (j := 5) hc dX0_tryMaker_147 rfl rfl rfl ?_
      refine gf_X0_15 (q := 151) hc dX0_tryMaker_148 (kc_0 hK hcb) rfl ?_
      exact w_lreturn hc hq dX0_tryMaker_151 rfl rfl
    · refine w_aload_n (q := 153) (i := 0) (j := 5) hc dX0_tryMaker_152 rfl rfl rfl ?_
      refine w_lload (q := 155) (i := 8) (j := 0) hc dX0_tryMaker_153 rfl rfl ?_
      refine w_aload_n (q := 156) (i := 0) (j := 5) hc dX0_tryMaker_155 rfl rfl rfl ?_
      refine gf_X0_27 (q := 159) hc dX0_tryMaker_156 (kc_0 hK hcb) (rc_4 hR hcb) rfl ?_
      refine w_iload (q := 161) (i := 7) (j := 1) hc dX0_tryMaker_159 rfl rfl ?_
      refine w_lald (q := 162) hc dX0_tryMaker_161 (kc_3 hK hcb) rfl ?_
      refine w_aload_n (q := 163) (i := 0) (j := 5) hc dX0_tryMaker_162 rfl rfl rfl ?_
      refine gf_X0_11 (q := 166) hc dX0_tryMaker_163 (kc_0 hK hcb) rfl ?_
      refine w_callS_Rl (q := 169) (st := [.ref cb]) (args := [.long q_6, .long (L (cb + 3) (ix v7_5)), .int (I_3 cb 0)]) hc (m_X6_compose hK hR) dX0_tryMaker_166 ml_X0_72 cf_X6_compose st_X6_compose rfl rfl (Nat.le_of_ble_eq_true rfl) ⟨Nat.le_of_ble_eq_true rfl, Nat.le_of_ble_eq_true rfl⟩ rfl (fun q_7 => ?_)
      refine w_iload_n (q := 170) (i := 1) (j := 6) hc dX0_tryMaker_169 rfl rfl rfl ?_
      refine w_iconst (q := 171) hc dX0_tryMaker_170 ci_1 rfl ?_
      refine w_iadd (q := 172) hc dX0_tryMaker_171  rfl ?_
      refine w_callV_Rl (q := 175) (st := []) (args := [.long q_7, .int (a1 + 1)]) (p := cb) hc (m_X0_sift hK hR hcb) dX0_tryMaker_172 ml_X0_52 cf_X0_sift iv_X0_sift (kc_0 hK hcb) (C := RX0) (T := TX0) (N := 8) rfl rfl (Nat.lt_of_succ_le (Nat.le_of_ble_eq_true rfl)) rfl rfl (Nat.le_of_ble_eq_true rfl) ⟨Nat.le_of_ble_eq_true rfl, Nat.le_of_ble_eq_true rfl⟩ rfl (fun q_8 => ?_)
      exact w_lreturn hc hq dX0_tryMaker_175 rfl rfl
set_option maxRecDepth 100000 in
set_option maxHeartbeats 4000000 in
theorem wl_X0_grow_29 {G : GT (Bool × Mm)} {rm : Nat} (cb : Nat) (hc : Cx G cX0_grow yX0_grow.cls (some .boolean) 3 85) (hq : RetQ G anZW meW) (hK : gK G = lK rm) (hR : gR G = lR rm) (hn : gnL G = 8) (hcb : isCh cb) : ∀ (n : Nat) (v5_4 : Int32) (v6_5 : Int32) (I_6 : MI) (L_7 : ML), WW G 29 [(0, .ref cb), (5, .int v5_4), (6, .int v6_5)] [] I_6 L_7 (f_X0_grow_29 cb n v5_4 v6_5 I_6 L_7) := by
  have hN : ∀ i, Nat.blt i 8 = true → i < gnL G := fun i h => hn ▸ Nat.blt_eq.mp h
  intro n
  induction n with
  | zero => intros; exact w_none _ _ _
  | succ n ih =>
    intros v5_4 v6_5 I_6 L_7
    rw [f_X0_grow_29]
    refine w_iload (q := 31) (i := 6) (j := 2) hc dX0_grow_29 rfl rfl ?_
    refine w_ldc (q := 33) hc dX0_grow_31 ki_X0_60 rfl ?_
    refine w_icmpge (q := 36) (tgt := 95) hc dX0_grow_33 rfl rfl ?_ ?_
    · refine w_iconst (q := 96) hc dX0_grow_95 ci_1 rfl ?_
      exact w_ireturn (v := b2i true) hc hq dX0_grow_96 (nar_b2i true) rfl rfl
    · refine w_iload (q := 38) (i := 5) (j := 1) hc dX0_grow_36 rfl rfl ?_
      refine w_iflt (q := 41) (tgt := 95) hc dX0_grow_38 rfl rfl ?_ ?_
      · refine w_iconst (q := 96) hc dX0_grow_95 ci_1 rfl ?_
        exact w_ireturn (v := b2i true) hc hq dX0_grow_96 (nar_b2i true) rfl rfl
      · refine w_aload_n (q := 42) (i := 0) (j := 0) hc dX0_grow_41 rfl rfl rfl ?_
        refine w_iload (q := 44) (i := 5) (j := 1) hc dX0_grow_42 rfl rfl ?_
        refine w_callV_Ri (q := 47) (st := []) (args := [.int v5_4]) (p := cb) hc (m_X0_untried hK hR hcb) dX0_grow_44 ml_X0_61 cf_X0_untried iv_X0_untried (kc_0 hK hcb) (C := RX0) (T := TX0) (N := 8) rfl rfl (Nat.lt_of_succ_le (Nat.le_of_ble_eq_true rfl)) rfl rfl (Nat.le_of_ble_eq_true rfl) ⟨Nat.le_of_ble_eq_true rfl, Nat.le_of_ble_eq_true rfl⟩ rfl (fun q_8 => ?_)
        refine w_istore (q := 49) (i := 7) (lv' := [(7, .int q_8), (0, .ref cb), (5, .int v5_4), (6, .int v6_5)]) hc dX0_grow_47 (hN 7 rfl) rfl rfl ?_
        refine w_iload (q := 51) (i := 7) (j := 0) hc dX0_grow_49 rfl rfl ?_
        refine w_ifge (q := 54) (tgt := 60) hc dX0_grow_51 rfl rfl ?_ ?_
        · refine w_aload_n (q := 61) (i := 0) (j := 1) hc dX0_grow_60 rfl rfl rfl ?_
          refine w_iload (q := 63) (i := 5) (j := 2) hc dX0_grow_61 rfl rfl ?_
          refine w_iload (q := 65) (i := 7) (j := 0) hc dX0_grow_63 rfl rfl ?_
          refine w_callV_Wl (q := 68) (st := []) (args := [.int v5_4, .int q_8]) (p := cb) hc (m_X0_tryMaker hK hR hcb) dX0_grow_65 ml_X0_65 cf_X0_tryMaker iv_X0_tryMaker (kc_0 hK hcb) (C := RX0) (T := TX0) (N := 8) rfl rfl (Nat.lt_of_succ_le (Nat.le_of_ble_eq_true rfl)) rfl rfl (Nat.le_of_ble_eq_true rfl) ⟨Nat.le_of_ble_eq_true rfl, Nat.le_of_ble_eq_true rfl⟩ rfl (fun q_9 => ?_)
          refine w_lstore_nB (q := 69) (i := 3) (lv' := fun v3_10 => [(3, .long v3_10), (7, .int q_8), (0, .ref cb), (5, .int v5_4), (6, .int v6_5)]) hc dX0_grow_68 rfl (hN 4 rfl) (fun _ => rfl) rfl (fun v3_10 => ?_)
          refine w_lload_n (q := 70) (i := 3) (j := 0) hc dX0_grow_69 rfl rfl rfl ?_
          refine w_aload_n (q := 71) (i := 0) (j := 2) hc dX0_grow_70 rfl rfl rfl ?_
          refine gf_X0_15 (q := 74) hc dX0_grow_71 (kc_0 hK hcb) rfl ?_
          refine w_lcmp (q := 75) hc dX0_grow_74  rfl ?_
          refine w_ifeq (q := 78) (tgt := 89) hc dX0_grow_75 rfl rfl ?_ ?_
          · refine w_iincB (q := 92) (i := 6) (j := 4) (lv' := fun v6_11 => [(6, .int v6_11), (3, .long v3_10), (7, .int q_8), (0, .ref cb), (5, .int v5_4)]) hc dX0_grow_89 rfl ci_1 (hN 6 rfl) (fun _ => rfl) rfl (fun v6_11 => ?_)
            refine w_goto (tgt := 29) hc dX0_grow_92 rfl ?_
            refine w_sub [3, 4, 0] rfl ?_
            exact ih v5_4 v6_11 q_9.2.1 q_9.2.2
          · refine w_aload_n (q := 79) (i := 0) (j := 2) hc dX0_grow_78 rfl rfl rfl ?_
            refine w_lload_n (q := 80) (i := 3) (j := 0) hc dX0_grow_79 rfl rfl rfl ?_
            refine w_iload (q := 82) (i := 5) (j := 3) hc dX0_grow_80 rfl rfl ?_
            refine w_iconst (q := 83) hc dX0_grow_82 ci_1 rfl ?_
            refine w_iadd (q := 84) hc dX0_grow_83  rfl ?_
            refine w_callV_Wi (q := 87) (st := []) (args := [.long v3_10, .int (v5_4 + 1)]) (p := cb) hc (m_X0_insert hK hR hcb) dX0_grow_84 ml_X0_56 cf_X0_insert iv_X0_insert (kc_0 hK hcb) (C := RX0) (T := TX0) (N := 8) rfl rfl (Nat.lt_of_succ_le (Nat.le_of_ble_eq_true rfl)) rfl rfl (Nat.le_of_ble_eq_true rfl) ⟨Nat.le_of_ble_eq_true rfl, Nat.le_of_ble_eq_true rfl⟩ rfl (fun q_12 => ?_)
            refine w_istoreB (q := 89) (i := 5) (lv' := fun v5_13 => [(5, .int v5_13), (3, .long v3_10), (7, .int q_8), (0, .ref cb), (6, .int v6_5)]) hc dX0_grow_87 (hN 5 rfl) (fun _ => rfl) rfl (fun v5_13 => ?_)
            refine w_iincB (q := 92) (i := 6) (j := 4) (lv' := fun v6_14 => [(6, .int v6_14), (5, .int v5_13), (3, .long v3_10), (7, .int q_8), (0, .ref cb)]) hc dX0_grow_89 rfl ci_1 (hN 6 rfl) (fun _ => rfl) rfl (fun v6_14 => ?_)
            refine w_goto (tgt := 29) hc dX0_grow_92 rfl ?_
            refine w_sub [4, 1, 0] rfl ?_
            exact ih v5_13 v6_14 q_12.2.1 q_12.2.2
        · refine w_iincB (q := 57) (i := 5) (j := 2) (lv' := fun v5_15 => [(5, .int v5_15), (7, .int q_8), (0, .ref cb), (6, .int v6_5)]) hc dX0_grow_54 rfl ci_m1 (hN 5 rfl) (fun _ => rfl) rfl (fun v5_15 => ?_)
          refine w_goto (tgt := 89) hc dX0_grow_57 rfl ?_
          refine w_iincB (q := 92) (i := 6) (j := 3) (lv' := fun v6_16 => [(6, .int v6_16), (5, .int v5_15), (7, .int q_8), (0, .ref cb)]) hc dX0_grow_89 rfl ci_1 (hN 6 rfl) (fun _ => rfl) rfl (fun v6_16 => ?_)
          refine w_goto (tgt := 29) hc dX0_grow_92 rfl ?_
          refine w_sub [3, 1, 0] rfl ?_
          exact ih v5_15 v6_16 I_6 L_7
set_option maxRecDepth 100000 in
set_option maxHeartbeats 4000000 in
theorem m_X0_grow {l : Launch} {K : KT} {R : MR} {rm : Nat} {cb : Nat} {a1 : Int64} {I : MI} {L : ML} (hK0 : K = lK rm) (hR0 : R = lR rm) (hcb : isCh cb) : MFg l yX0_grow cX0_grow 8 (some .boolean) 3 85 [.ref cb, .long a1] K R I L anZW meW (f_X0_grow cb a1 I L) := by
  refine mf_of (plainFor_of_name (by decide)) (Nat.le_of_ble_eq_true rfl) ?_
  intro G hc _ hK1 hR1 hn hq
  have hK := hK1.trans hK0
  have hR := hR1.trans hR0
  have hN : ∀ i, Nat.blt i 8 = true → i < gnL G := fun i h => hn ▸ Nat.blt_eq.mp h
  unfold f_X0_grow
  show WW G 0 [(0, .ref cb), (1, .long a1)] [] I L _
  refine w_aload_n (q := 1) (i := 0) (j := 0) hc dX0_grow_0 rfl rfl rfl ?_
  refine w_lload_n (q := 2) (i := 1) (j := 1) hc dX0_grow_1 rfl rfl rfl ?_
  refine w_iconst (q := 3) hc dX0_grow_2 ci_0 rfl ?_
  refine w_callV_Rl (q := 6) (st := []) (args := [.long a1, .int 0]) (p := cb) hc (m_X0_sift hK hR hcb) dX0_grow_3 ml_X0_52 cf_X0_sift iv_X0_sift (kc_0 hK hcb) (C := RX0) (T := TX0) (N := 8) rfl rfl (Nat.lt_of_succ_le (Nat.le_of_ble_eq_true rfl)) rfl rfl (Nat.le_of_ble_eq_true rfl) ⟨Nat.le_of_ble_eq_true rfl, Nat.le_of_ble_eq_true rfl⟩ rfl (fun q_1 => ?_)
  refine w_lstore_n (q := 7) (i := 3) (lv' := [(3, .long q_1), (0, .ref cb), (1, .long a1)]) hc dX0_grow_6 rfl (hN 4 rfl) rfl rfl ?_
  refine w_lload_n (q := 8) (i := 3) (j := 0) hc dX0_grow_7 rfl rfl rfl ?_
  refine w_aload_n (q := 9) (i := 0) (j := 1) hc dX0_grow_8 rfl rfl rfl ?_
  refine gf_X0_15 (q := 12) hc dX0_grow_9 (kc_0 hK hcb) rfl ?_
  refine w_lcmp (q := 13) hc dX0_grow_12  rfl ?_
  refine w_ifne (q := 16) (tgt := 18) hc dX0_grow_13 rfl rfl ?_ ?_
  · refine w_iconst (q := 17) hc dX0_grow_16 ci_0 rfl ?_
    exact w_ireturn (v := b2i false) hc hq dX0_grow_17 (nar_b2i false) rfl rfl
  · refine w_aload_n (q := 19) (i := 0) (j := 1) hc dX0_grow_18 rfl rfl rfl ?_
    refine w_lload_n (q := 20) (i := 3) (j := 0) hc dX0_grow_19 rfl rfl rfl ?_
    refine w_iconst (q := 21) hc dX0_grow_20 ci_0 rfl ?_
    refine w_callV_Wi (q := 24) (st := []) (args := [.long q_1, .int 0]) (p := cb) hc (m_X0_insert hK hR hcb) dX0_grow_21 ml_X0_56 cf_X0_insert iv_X0_insert (kc_0 hK hcb) (C := RX0) (T := TX0) (N := 8) rfl rfl (Nat.lt_of_succ_le (Nat.le_of_ble_eq_true rfl)) rfl rfl (Nat.le_of_ble_eq_true rfl) ⟨Nat.le_of_ble_eq_true rfl, Nat.le_of_ble_eq_true rfl⟩ rfl (fun q_2 => ?_)
    refine w_istoreB (q := 26) (i := 5) (lv' := fun v5_3 => [(5, .int v5_3), (3, .long q_1), (0, .ref cb), (1, .long a1)]) hc dX0_grow_24 (hN 5 rfl) (fun _ => rfl) rfl (fun v5_3 => ?_)
    refine w_iconst (q := 27) hc dX0_grow_26 ci_0 rfl ?_
    refine w_istore (q := 29) (i := 6) (lv' := [(6, .int 0), (5, .int v5_3), (3, .long q_1), (0, .ref cb), (1, .long a1)]) hc dX0_grow_27 (hN 6 rfl) rfl rfl ?_
    refine w_sub [3, 1, 0] rfl ?_
    exact wl_X0_grow_29 cb hc hq hK hR hn hcb FU v5_3 0 q_2.2.1 q_2.2.2
set_option maxRecDepth 100000 in
set_option maxHeartbeats 4000000 in
theorem wl_X0_gather_11 {G : GT (Int32 × Mm)} {rm : Nat} (cb : Nat) (a1 : Nat) (v2_2 : Int32) (hc : Cx G cX0_gather yX0_gather.cls (some .int) 4 112) (hq : RetQ G anIW meW) (hK : gK G = lK rm) (hR : gR G = lR rm) (hn : gnL G = 6) (hcb : isCh cb) (ha1 : (lK rm)[a1]? = some (11, 6)) : ∀ (n : Nat) (v4_3 : Int32) (v5_4 : Int32) (I_5 : MI) (L_6 : ML), WW G 11 [(0, .ref cb), (1, .ref a1), (2, .int v2_2), (4, .int v4_3), (5, .int v5_4)] [] I_5 L_6 (f_X0_gather_11 cb a1 v2_2 n v4_3 v5_4 I_5 L_6) := by
  have hN : ∀ i, Nat.blt i 6 = true → i < gnL G := fun i h => hn ▸ Nat.blt_eq.mp h
  intro n
  induction n with
  | zero => intros; exact w_none _ _ _
  | succ n ih =>
    intros v4_3 v5_4 I_5 L_6
    rw [f_X0_gather_11]
    refine w_iload (q := 13) (i := 5) (j := 4) hc dX0_gather_11 rfl rfl ?_
    refine w_aload_n (q := 14) (i := 1) (j := 1) hc dX0_gather_13 rfl rfl rfl ?_
    refine w_alenJ (q := 15) hc dX0_gather_14 (kA hK ha1) cn_6 rfl ?_
    refine w_icmpge (q := 18) (tgt := 53) hc dX0_gather_15 rfl rfl ?_ ?_
    · refine w_iload (q := 55) (i := 4) (j := 3) hc dX0_gather_53 rfl rfl ?_
      exact w_ireturn (v := v4_3) hc hq dX0_gather_55 rfl rfl rfl
    · refine w_iload_n (q := 19) (i := 2) (j := 2) hc dX0_gather_18 rfl rfl rfl ?_
      refine w_iload (q := 21) (i := 5) (j := 4) hc dX0_gather_19 rfl rfl ?_
      refine w_ishr (q := 22) hc dX0_gather_21  rfl ?_
      refine w_iconst (q := 23) hc dX0_gather_22 ci_1 rfl ?_
      refine w_iand (q := 24) hc dX0_gather_23  rfl ?_
      refine w_ifeq (q := 27) (tgt := 47) hc dX0_gather_24 rfl rfl ?_ ?_
      · refine w_iincB (q := 50) (i := 5) (j := 4) (lv' := fun v5_7 => [(5, .int v5_7), (0, .ref cb), (1, .ref a1), (2, .int v2_2), (4, .int v4_3)]) hc dX0_gather_47 rfl ci_1 (hN 5 rfl) (fun _ => rfl) rfl (fun v5_7 => ?_)
        refine w_goto (tgt := 11) hc dX0_gather_50 rfl ?_
        refine w_sub [1, 2, 3, 4, 0] rfl ?_
        exact ih v4_3 v5_7 I_5 L_6
      · refine w_aload_n (q := 28) (i := 0) (j := 0) hc dX0_gather_27 rfl rfl rfl ?_
        refine w_aload_n (q := 29) (i := 1) (j := 1) hc dX0_gather_28 rfl rfl rfl ?_
        refine w_iload (q := 31) (i := 5) (j := 4) hc dX0_gather_29 rfl rfl ?_
        refine w_lald (q := 32) hc dX0_gather_31 (kA hK ha1) rfl ?_
        refine w_callV_Wz (q := 35) (st := []) (args := [.long (L_6 a1 (ix v5_4))]) (p := cb) hc (m_X0_grow hK hR hcb) dX0_gather_32 ml_X0_48 cf_X0_grow iv_X0_grow (kc_0 hK hcb) (C := RX0) (T := TX0) (N := 8) rfl rfl (Nat.lt_of_succ_le (Nat.le_of_ble_eq_true rfl)) rfl rfl (Nat.le_of_ble_eq_true rfl) ⟨Nat.le_of_ble_eq_true rfl, Nat.le_of_ble_eq_true rfl⟩ rfl (fun q_8 => ?_)
        refine w_ifeq (q := 38) (tgt := 47) hc dX0_gather_35 rfl rfl ?_ ?_
        · refine w_iincB (q := 50) (i := 5) (j := 4) (lv' := fun v5_9 => [(5, .int v5_9), (0, .ref cb), (1, .ref a1), (2, .int v2_2), (4, .int v4_3)]) hc dX0_gather_47 rfl ci_1 (hN 5 rfl) (fun _ => rfl) rfl (fun v5_9 => ?_)
          refine w_goto (tgt := 11) hc dX0_gather_50 rfl ?_
          refine w_sub [1, 2, 3, 4, 0] rfl ?_
          exact ih v4_3 v5_9 q_8.2.1 q_8.2.2
        · refine w_iload (q := 40) (i := 4) (j := 3) hc dX0_gather_38 rfl rfl ?_
          refine w_iconst (q := 41) hc dX0_gather_40 ci_1 rfl ?_
          refine w_iload (q := 43) (i := 5) (j := 4) hc dX0_gather_41 rfl rfl ?_
          refine w_ishl (q := 44) hc dX0_gather_43  rfl ?_
          refine w_ior (q := 45) hc dX0_gather_44  rfl ?_
          refine w_istoreB (q := 47) (i := 4) (lv' := fun v4_10 => [(4, .int v4_10), (0, .ref cb), (1, .ref a1), (2, .int v2_2), (5, .int v5_4)]) hc dX0_gather_45 (hN 4 rfl) (fun _ => rfl) rfl (fun v4_10 => ?_)
          refine w_iincB (q := 50) (i := 5) (j := 4) (lv' := fun v5_11 => [(5, .int v5_11), (4, .int v4_10), (0, .ref cb), (1, .ref a1), (2, .int v2_2)]) hc dX0_gather_47 rfl ci_1 (hN 5 rfl) (fun _ => rfl) rfl (fun v5_11 => ?_)
          refine w_goto (tgt := 11) hc dX0_gather_50 rfl ?_
          refine w_sub [2, 3, 4, 1, 0] rfl ?_
          exact ih v4_10 v5_11 q_8.2.1 q_8.2.2
set_option maxRecDepth 100000 in
set_option maxHeartbeats 4000000 in
theorem m_X0_gather {l : Launch} {K : KT} {R : MR} {rm : Nat} {cb : Nat} {a1 : Nat} {a2 : Int32} {a3 : Int32} {I : MI} {L : ML} (hK0 : K = lK rm) (hR0 : R = lR rm) (hcb : isCh cb) (ha1 : (lK rm)[a1]? = some (11, 6)) : MFg l yX0_gather cX0_gather 6 (some .int) 4 112 [.ref cb, .ref a1, .int a2, .int a3] K R I L anIW meW (f_X0_gather cb a1 a2 a3 I L) := by
  refine mf_of (plainFor_of_name (by decide)) (Nat.le_of_ble_eq_true rfl) ?_
  intro G hc _ hK1 hR1 hn hq
  have hK := hK1.trans hK0
  have hR := hR1.trans hR0
  have hN : ∀ i, Nat.blt i 6 = true → i < gnL G := fun i h => hn ▸ Nat.blt_eq.mp h
  unfold f_X0_gather
  show WW G 0 [(0, .ref cb), (1, .ref a1), (2, .int a2), (3, .int a3)] [] I L _
  refine w_aload_n (q := 1) (i := 0) (j := 0) hc dX0_gather_0 rfl rfl rfl ?_
  refine w_iload_n (q := 2) (i := 3) (j := 3) hc dX0_gather_1 rfl rfl rfl ?_
  refine w_callV_Wv (q := 5) (st := []) (args := [.int a3]) (p := cb) hc (m_X0_start hK hR hcb) dX0_gather_2 ml_X0_44 cf_X0_start iv_X0_start (kc_0 hK hcb) (C := RX0) (T := TX0) (N := 8) rfl rfl (Nat.lt_of_succ_le (Nat.le_of_ble_eq_true rfl)) rfl rfl (Nat.le_of_ble_eq_true rfl) ⟨Nat.le_of_ble_eq_true rfl, Nat.le_of_ble_eq_true rfl⟩ rfl (fun q_1 => ?_)
  refine w_iconst (q := 6) hc dX0_gather_5 ci_0 rfl ?_
  refine w_istore (q := 8) (i := 4) (lv' := [(4, .int 0), (0, .ref cb), (1, .ref a1), (2, .int a2), (3, .int a3)]) hc dX0_gather_6 (hN 4 rfl) rfl rfl ?_
  refine w_iconst (q := 9) hc dX0_gather_8 ci_0 rfl ?_
  refine w_istore (q := 11) (i := 5) (lv' := [(5, .int 0), (4, .int 0), (0, .ref cb), (1, .ref a1), (2, .int a2), (3, .int a3)]) hc dX0_gather_9 (hN 5 rfl) rfl rfl ?_
  refine w_sub [2, 3, 4, 1, 0] rfl ?_
  exact wl_X0_gather_11 cb a1 a2 hc hq hK hR hn hcb ha1 FU 0 0 q_1.1 q_1.2
set_option maxRecDepth 100000 in
set_option maxHeartbeats 4000000 in
theorem m_X0_countMakers {l : Launch} {K : KT} {R : MR} {rm : Nat} {cb : Nat} {I : MI} {L : ML} (hK0 : K = lK rm) (hR0 : R = lR rm) (hcb : isCh cb) : MFg l yX0_countMakers cX0_countMakers 1 (some .int) 0 0 [.ref cb] K R I L anI (meR I L) (f_X0_countMakers cb I L) := by
  refine mf_of (plainFor_of_name (by decide)) (Nat.le_of_ble_eq_true rfl) ?_
  intro G hc _ hK1 hR1 hn hq
  have hK := hK1.trans hK0
  have hR := hR1.trans hR0
  have hN : ∀ i, Nat.blt i 1 = true → i < gnL G := fun i h => hn ▸ Nat.blt_eq.mp h
  unfold f_X0_countMakers
  show WW G 0 [(0, .ref cb)] [] I L _
  refine w_aload_n (q := 1) (i := 0) (j := 0) hc dX0_countMakers_0 rfl rfl rfl ?_
  refine gf_X0_33 (q := 4) hc dX0_countMakers_1 (kc_0 hK hcb) (rc_6 hR hcb) rfl ?_
  refine w_iconst (q := 5) hc dX0_countMakers_4 ci_0 rfl ?_
  refine w_iald (q := 6) hc dX0_countMakers_5 (kc_5 hK hcb) rfl ?_
  exact w_ireturn (v := (I (cb + 5) (ix 0))) hc hq dX0_countMakers_6 rfl rfl rfl
set_option maxRecDepth 100000 in
set_option maxHeartbeats 4000000 in
theorem m_X0_maker {l : Launch} {K : KT} {R : MR} {rm : Nat} {cb : Nat} {a1 : Int32} {I : MI} {L : ML} (hK0 : K = lK rm) (hR0 : R = lR rm) (hcb : isCh cb) : MFg l yX0_maker cX0_maker 2 (some .long) 0 0 [.ref cb, .int a1] K R I L anL (meR I L) (f_X0_maker cb a1 I L) := by
  refine mf_of (plainFor_of_name (by decide)) (Nat.le_of_ble_eq_true rfl) ?_
  intro G hc _ hK1 hR1 hn hq
  have hK := hK1.trans hK0
  have hR := hR1.trans hR0
  have hN : ∀ i, Nat.blt i 2 = true → i < gnL G := fun i h => hn ▸ Nat.blt_eq.mp h
  unfold f_X0_maker
  show WW G 0 [(0, .ref cb), (1, .int a1)] [] I L _
  refine w_iload_n (q := 1) (i := 1) (j := 1) hc dX0_maker_0 rfl rfl rfl ?_
  refine w_iflt (q := 4) (tgt := 19) hc dX0_maker_1 rfl rfl ?_ ?_
  · refine w_aload_n (q := 20) (i := 0) (j := 0) hc dX0_maker_19 rfl rfl rfl ?_
    refine gf_X0_15 (q := 23) hc dX0_maker_20 (kc_0 hK hcb) rfl ?_
    exact w_lreturn hc hq dX0_maker_23 rfl rfl
  · refine w_iload_n (q := 5) (i := 1) (j := 1) hc dX0_maker_4 rfl rfl rfl ?_
    refine w_bipush (q := 7) hc dX0_maker_5 cb_16 rfl ?_
    refine w_icmpge (q := 10) (tgt := 19) hc dX0_maker_7 rfl rfl ?_ ?_
    · refine w_aload_n (q := 20) (i := 0) (j := 0) hc dX0_maker_19 rfl rfl rfl ?_
      refine gf_X0_15 (q := 23) hc dX0_maker_20 (kc_0 hK hcb) rfl ?_
      exact w_lreturn hc hq dX0_maker_23 rfl rfl
    · refine w_aload_n (q := 11) (i := 0) (j := 0) hc dX0_maker_10 rfl rfl rfl ?_
      refine gf_X0_30 (q := 14) hc dX0_maker_11 (kc_0 hK hcb) (rc_5 hR hcb) rfl ?_
      refine w_iload_n (q := 15) (i := 1) (j := 1) hc dX0_maker_14 rfl rfl rfl ?_
      refine w_lald (q := 16) hc dX0_maker_15 (kc_4 hK hcb) rfl ?_
      refine w_goto (tgt := 23) hc dX0_maker_16 rfl ?_
      exact w_lreturn hc hq dX0_maker_23 rfl rfl
set_option maxRecDepth 100000 in
set_option maxHeartbeats 4000000 in
theorem wl_X0_sizeFrom_4 {G : GT Int32} {rm : Nat} (cb : Nat) (I : MI) (L : ML) (hc : Cx G cX0_sizeFrom yX0_sizeFrom.cls (some .int) 1 20) (hq : RetQ G anI (meR I L)) (hK : gK G = lK rm) (hR : gR G = lR rm) (hn : gnL G = 4) (hcb : isCh cb) : ∀ (n : Nat) (v2_1 : Int32) (v3_2 : Int32), WW G 4 [(0, .ref cb), (2, .int v2_1), (3, .int v3_2)] [] I L (f_X0_sizeFrom_4 cb I L n v2_1 v3_2) := by
  have hN : ∀ i, Nat.blt i 4 = true → i < gnL G := fun i h => hn ▸ Nat.blt_eq.mp h
  intro n
  induction n with
  | zero => intros; exact w_none _ _ _
  | succ n ih =>
    intros v2_1 v3_2
    rw [f_X0_sizeFrom_4]
    refine w_iload_n (q := 5) (i := 3) (j := 2) hc dX0_sizeFrom_4 rfl rfl rfl ?_
    refine w_aload_n (q := 6) (i := 0) (j := 0) hc dX0_sizeFrom_5 rfl rfl rfl ?_
    refine gf_X0_11 (q := 9) hc dX0_sizeFrom_6 (kc_0 hK hcb) rfl ?_
    refine w_icmpge (q := 12) (tgt := 30) hc dX0_sizeFrom_9 rfl rfl ?_ ?_
    · refine w_iload_n (q := 31) (i := 2) (j := 1) hc dX0_sizeFrom_30 rfl rfl rfl ?_
      exact w_ireturn (v := v2_1) hc hq dX0_sizeFrom_31 rfl rfl rfl
    · refine w_iload_n (q := 13) (i := 2) (j := 1) hc dX0_sizeFrom_12 rfl rfl rfl ?_
      refine w_aload_n (q := 14) (i := 0) (j := 0) hc dX0_sizeFrom_13 rfl rfl rfl ?_
      refine gf_X0_19 (q := 17) hc dX0_sizeFrom_14 (kc_0 hK hcb) (rc_2 hR hcb) rfl ?_
      refine w_iload_n (q := 18) (i := 3) (j := 2) hc dX0_sizeFrom_17 rfl rfl rfl ?_
      refine w_iald (q := 19) hc dX0_sizeFrom_18 (kc_1 hK hcb) rfl ?_
      refine w_callS_Ri (q := 22) (st := [.int v2_1]) (args := [.int (I (cb + 1) (ix v3_2))]) hc (m_J6_bitCount_0f7a4 hK hR) dX0_sizeFrom_19 ml_X0_92 cf_J6_bitCount_0f7a4 st_J6_bitCount_0f7a4 rfl rfl (Nat.le_of_ble_eq_true rfl) ⟨Nat.le_of_ble_eq_true rfl, Nat.le_of_ble_eq_true rfl⟩ rfl (fun q_3 => ?_)
      refine w_imul (q := 23) hc dX0_sizeFrom_22  rfl ?_
      refine w_istore_nB (q := 24) (i := 2) (lv' := fun v2_4 => [(2, .int v2_4), (0, .ref cb), (3, .int v3_2)]) hc dX0_sizeFrom_23 rfl (hN 2 rfl) (fun _ => rfl) rfl (fun v2_4 => ?_)
      refine w_iincB (q := 27) (i := 3) (j := 2) (lv' := fun v3_5 => [(3, .int v3_5), (2, .int v2_4), (0, .ref cb)]) hc dX0_sizeFrom_24 rfl ci_1 (hN 3 rfl) (fun _ => rfl) rfl (fun v3_5 => ?_)
      refine w_goto (tgt := 4) hc dX0_sizeFrom_27 rfl ?_
      refine w_sub [2, 1, 0] rfl ?_
      exact ih v2_4 v3_5
set_option maxRecDepth 100000 in
set_option maxHeartbeats 4000000 in
theorem m_X0_sizeFrom {l : Launch} {K : KT} {R : MR} {rm : Nat} {cb : Nat} {a1 : Int32} {I : MI} {L : ML} (hK0 : K = lK rm) (hR0 : R = lR rm) (hcb : isCh cb) : MFg l yX0_sizeFrom cX0_sizeFrom 4 (some .int) 1 20 [.ref cb, .int a1] K R I L anI (meR I L) (f_X0_sizeFrom cb a1 I L) := by
  refine mf_of (plainFor_of_name (by decide)) (Nat.le_of_ble_eq_true rfl) ?_
  intro G hc _ hK1 hR1 hn hq
  have hK := hK1.trans hK0
  have hR := hR1.trans hR0
  have hN : ∀ i, Nat.blt i 4 = true → i < gnL G := fun i h => hn ▸ Nat.blt_eq.mp h
  unfold f_X0_sizeFrom
  show WW G 0 [(0, .ref cb), (1, .int a1)] [] I L _
  refine w_iconst (q := 1) hc dX0_sizeFrom_0 ci_1 rfl ?_
  refine w_istore_n (q := 2) (i := 2) (lv' := [(2, .int 1), (0, .ref cb), (1, .int a1)]) hc dX0_sizeFrom_1 rfl (hN 2 rfl) rfl rfl ?_
  refine w_iload_n (q := 3) (i := 1) (j := 2) hc dX0_sizeFrom_2 rfl rfl rfl ?_
  refine w_istore_n (q := 4) (i := 3) (lv' := [(3, .int a1), (2, .int 1), (0, .ref cb), (1, .int a1)]) hc dX0_sizeFrom_3 rfl (hN 3 rfl) rfl rfl ?_
  refine w_sub [2, 1, 0] rfl ?_
  exact wl_X0_sizeFrom_4 cb I L hc hq hK hR hn hcb FU 1 a1
set_option maxRecDepth 100000 in
set_option maxHeartbeats 4000000 in
theorem m_X0_size {l : Launch} {K : KT} {R : MR} {rm : Nat} {cb : Nat} {I : MI} {L : ML} (hK0 : K = lK rm) (hR0 : R = lR rm) (hcb : isCh cb) : MFg l yX0_size cX0_size 1 (some .int) 2 43 [.ref cb] K R I L anI (meR I L) (f_X0_size cb I L) := by
  refine mf_of (plainFor_of_name (by decide)) (Nat.le_of_ble_eq_true rfl) ?_
  intro G hc _ hK1 hR1 hn hq
  have hK := hK1.trans hK0
  have hR := hR1.trans hR0
  have hN : ∀ i, Nat.blt i 1 = true → i < gnL G := fun i h => hn ▸ Nat.blt_eq.mp h
  unfold f_X0_size
  show WW G 0 [(0, .ref cb)] [] I L _
  refine w_aload_n (q := 1) (i := 0) (j := 0) hc dX0_size_0 rfl rfl rfl ?_
  refine w_iconst (q := 2) hc dX0_size_1 ci_0 rfl ?_
  refine w_callV_Ri (q := 5) (st := []) (args := [.int 0]) (p := cb) hc (m_X0_sizeFrom hK hR hcb) dX0_size_2 ml_X0_89 cf_X0_sizeFrom iv_X0_sizeFrom (kc_0 hK hcb) (C := RX0) (T := TX0) (N := 8) rfl rfl (Nat.lt_of_succ_le (Nat.le_of_ble_eq_true rfl)) rfl rfl (Nat.le_of_ble_eq_true rfl) ⟨Nat.le_of_ble_eq_true rfl, Nat.le_of_ble_eq_true rfl⟩ rfl (fun q_1 => ?_)
  exact w_ireturn (v := q_1) hc hq dX0_size_5 rfl rfl rfl
set_option maxRecDepth 100000 in
set_option maxHeartbeats 4000000 in
theorem m_X0_contains {l : Launch} {K : KT} {R : MR} {rm : Nat} {cb : Nat} {a1 : Int64} {I : MI} {L : ML} (hK0 : K = lK rm) (hR0 : R = lR rm) (hcb : isCh cb) : MFg l yX0_contains cX0_contains 3 (some .boolean) 2 56 [.ref cb, .long a1] K R I L anZ (meR I L) (f_X0_contains cb a1 I L) := by
  refine mf_of (plainFor_of_name (by decide)) (Nat.le_of_ble_eq_true rfl) ?_
  intro G hc _ hK1 hR1 hn hq
  have hK := hK1.trans hK0
  have hR := hR1.trans hR0
  have hN : ∀ i, Nat.blt i 3 = true → i < gnL G := fun i h => hn ▸ Nat.blt_eq.mp h
  unfold f_X0_contains
  show WW G 0 [(0, .ref cb), (1, .long a1)] [] I L _
  refine w_aload_n (q := 1) (i := 0) (j := 0) hc dX0_contains_0 rfl rfl rfl ?_
  refine w_lload_n (q := 2) (i := 1) (j := 1) hc dX0_contains_1 rfl rfl rfl ?_
  refine w_iconst (q := 3) hc dX0_contains_2 ci_0 rfl ?_
  refine w_callV_Rl (q := 6) (st := []) (args := [.long a1, .int 0]) (p := cb) hc (m_X0_sift hK hR hcb) dX0_contains_3 ml_X0_52 cf_X0_sift iv_X0_sift (kc_0 hK hcb) (C := RX0) (T := TX0) (N := 8) rfl rfl (Nat.lt_of_succ_le (Nat.le_of_ble_eq_true rfl)) rfl rfl (Nat.le_of_ble_eq_true rfl) ⟨Nat.le_of_ble_eq_true rfl, Nat.le_of_ble_eq_true rfl⟩ rfl (fun q_1 => ?_)
  refine w_aload_n (q := 7) (i := 0) (j := 0) hc dX0_contains_6 rfl rfl rfl ?_
  refine gf_X0_15 (q := 10) hc dX0_contains_7 (kc_0 hK hcb) rfl ?_
  refine w_lcmp (q := 11) hc dX0_contains_10  rfl ?_
  refine w_ifne (q := 14) (tgt := 18) hc dX0_contains_11 rfl rfl ?_ ?_
  · refine w_iconst (q := 15) hc dX0_contains_14 ci_1 rfl ?_
    refine w_goto (tgt := 19) hc dX0_contains_15 rfl ?_
    exact w_ireturn (v := b2i true) hc hq dX0_contains_19 (nar_b2i true) rfl rfl
  · refine w_iconst (q := 19) hc dX0_contains_18 ci_0 rfl ?_
    exact w_ireturn (v := b2i false) hc hq dX0_contains_19 (nar_b2i false) rfl rfl
set_option maxRecDepth 100000 in
set_option maxHeartbeats 4000000 in
theorem m_X0_follow {l : Launch} {K : KT} {R : MR} {rm : Nat} {cb : Nat} {a1 : Int64} {I : MI} {L : ML} (hK0 : K = lK rm) (hR0 : R = lR rm) (hcb : isCh cb) : MFg l yX0_follow cX0_follow 3 (some .int) 2 56 [.ref cb, .long a1] K R I L anI (meR I L) (f_X0_follow cb a1 I L) := by
  refine mf_of (plainFor_of_name (by decide)) (Nat.le_of_ble_eq_true rfl) ?_
  intro G hc _ hK1 hR1 hn hq
  have hK := hK1.trans hK0
  have hR := hR1.trans hR0
  have hN : ∀ i, Nat.blt i 3 = true → i < gnL G := fun i h => hn ▸ Nat.blt_eq.mp h
  unfold f_X0_follow
  show WW G 0 [(0, .ref cb), (1, .long a1)] [] I L _
  refine w_aload_n (q := 1) (i := 0) (j := 0) hc dX0_follow_0 rfl rfl rfl ?_
  refine w_aload_n (q := 2) (i := 0) (j := 0) hc dX0_follow_1 rfl rfl rfl ?_
  refine w_lload_n (q := 3) (i := 1) (j := 1) hc dX0_follow_2 rfl rfl rfl ?_
  refine w_iconst (q := 4) hc dX0_follow_3 ci_0 rfl ?_
  refine w_callV_Rl (q := 7) (st := [.ref cb]) (args := [.long a1, .int 0]) (p := cb) hc (m_X0_sift hK hR hcb) dX0_follow_4 ml_X0_52 cf_X0_sift iv_X0_sift (kc_0 hK hcb) (C := RX0) (T := TX0) (N := 8) rfl rfl (Nat.lt_of_succ_le (Nat.le_of_ble_eq_true rfl)) rfl rfl (Nat.le_of_ble_eq_true rfl) ⟨Nat.le_of_ble_eq_true rfl, Nat.le_of_ble_eq_true rfl⟩ rfl (fun q_1 => ?_)
  refine w_callV_Ri (q := 10) (st := []) (args := [.long q_1]) (p := cb) hc (m_X0_firstMoved hK hR hcb) dX0_follow_7 ml_X0_76 cf_X0_firstMoved iv_X0_firstMoved (kc_0 hK hcb) (C := RX0) (T := TX0) (N := 8) rfl rfl (Nat.lt_of_succ_le (Nat.le_of_ble_eq_true rfl)) rfl rfl (Nat.le_of_ble_eq_true rfl) ⟨Nat.le_of_ble_eq_true rfl, Nat.le_of_ble_eq_true rfl⟩ rfl (fun q_2 => ?_)
  exact w_ireturn (v := q_2) hc hq dX0_follow_10 rfl rfl rfl
set_option maxRecDepth 100000 in
set_option maxHeartbeats 4000000 in
theorem m_X0_reachedAt {l : Launch} {K : KT} {R : MR} {rm : Nat} {cb : Nat} {a1 : Int32} {I : MI} {L : ML} (hK0 : K = lK rm) (hR0 : R = lR rm) (hcb : isCh cb) : MFg l yX0_reachedAt cX0_reachedAt 2 (some .int) 0 0 [.ref cb, .int a1] K R I L anI (meR I L) (f_X0_reachedAt cb a1 I L) := by
  refine mf_of (plainFor_of_name (by decide)) (Nat.le_of_ble_eq_true rfl) ?_
  intro G hc _ hK1 hR1 hn hq
  have hK := hK1.trans hK0
  have hR := hR1.trans hR0
  have hN : ∀ i, Nat.blt i 2 = true → i < gnL G := fun i h => hn ▸ Nat.blt_eq.mp h
  unfold f_X0_reachedAt
  show WW G 0 [(0, .ref cb), (1, .int a1)] [] I L _
  refine w_iload_n (q := 1) (i := 1) (j := 1) hc dX0_reachedAt_0 rfl rfl rfl ?_
  refine w_iflt (q := 4) (tgt := 21) hc dX0_reachedAt_1 rfl rfl ?_ ?_
  · refine w_iconst (q := 22) hc dX0_reachedAt_21 ci_0 rfl ?_
    exact w_ireturn (v := 0) hc hq dX0_reachedAt_22 rfl rfl rfl
  · refine w_iload_n (q := 5) (i := 1) (j := 1) hc dX0_reachedAt_4 rfl rfl rfl ?_
    refine w_aload_n (q := 6) (i := 0) (j := 0) hc dX0_reachedAt_5 rfl rfl rfl ?_
    refine gf_X0_11 (q := 9) hc dX0_reachedAt_6 (kc_0 hK hcb) rfl ?_
    refine w_icmpge (q := 12) (tgt := 21) hc dX0_reachedAt_9 rfl rfl ?_ ?_
    · refine w_iconst (q := 22) hc dX0_reachedAt_21 ci_0 rfl ?_
      exact w_ireturn (v := 0) hc hq dX0_reachedAt_22 rfl rfl rfl
    · refine w_aload_n (q := 13) (i := 0) (j := 0) hc dX0_reachedAt_12 rfl rfl rfl ?_
      refine gf_X0_19 (q := 16) hc dX0_reachedAt_13 (kc_0 hK hcb) (rc_2 hR hcb) rfl ?_
      refine w_iload_n (q := 17) (i := 1) (j := 1) hc dX0_reachedAt_16 rfl rfl rfl ?_
      refine w_iald (q := 18) hc dX0_reachedAt_17 (kc_1 hK hcb) rfl ?_
      refine w_goto (tgt := 22) hc dX0_reachedAt_18 rfl ?_
      exact w_ireturn (v := (I (cb + 1) (ix a1))) hc hq dX0_reachedAt_22 rfl rfl rfl
set_option maxRecDepth 100000 in
set_option maxHeartbeats 4000000 in
theorem wl_X0_countHeld_4 {G : GT Int32} {rm : Nat} (cb : Nat) (I : MI) (L : ML) (hc : Cx G cX0_countHeld yX0_countHeld.cls (some .int) 1 20) (hq : RetQ G anI (meR I L)) (hK : gK G = lK rm) (hR : gR G = lR rm) (hn : gnL G = 3) (hcb : isCh cb) : ∀ (n : Nat) (v1_1 : Int32) (v2_2 : Int32), WW G 4 [(0, .ref cb), (1, .int v1_1), (2, .int v2_2)] [] I L (f_X0_countHeld_4 cb I L n v1_1 v2_2) := by
  have hN : ∀ i, Nat.blt i 3 = true → i < gnL G := fun i h => hn ▸ Nat.blt_eq.mp h
  intro n
  induction n with
  | zero => intros; exact w_none _ _ _
  | succ n ih =>
    intros v1_1 v2_2
    rw [f_X0_countHeld_4]
    refine w_iload_n (q := 5) (i := 2) (j := 2) hc dX0_countHeld_4 rfl rfl rfl ?_
    refine w_aload_n (q := 6) (i := 0) (j := 0) hc dX0_countHeld_5 rfl rfl rfl ?_
    refine gf_X0_11 (q := 9) hc dX0_countHeld_6 (kc_0 hK hcb) rfl ?_
    refine w_icmpge (q := 12) (tgt := 34) hc dX0_countHeld_9 rfl rfl ?_ ?_
    · refine w_iload_n (q := 35) (i := 1) (j := 1) hc dX0_countHeld_34 rfl rfl rfl ?_
      exact w_ireturn (v := v1_1) hc hq dX0_countHeld_35 rfl rfl rfl
    · refine w_aload_n (q := 13) (i := 0) (j := 0) hc dX0_countHeld_12 rfl rfl rfl ?_
      refine gf_X0_19 (q := 16) hc dX0_countHeld_13 (kc_0 hK hcb) (rc_2 hR hcb) rfl ?_
      refine w_iload_n (q := 17) (i := 2) (j := 2) hc dX0_countHeld_16 rfl rfl rfl ?_
      refine w_iald (q := 18) hc dX0_countHeld_17 (kc_1 hK hcb) rfl ?_
      refine w_callS_Ri (q := 21) (st := []) (args := [.int (I (cb + 1) (ix v2_2))]) hc (m_J6_bitCount_0f7a4 hK hR) dX0_countHeld_18 ml_X0_92 cf_J6_bitCount_0f7a4 st_J6_bitCount_0f7a4 rfl rfl (Nat.le_of_ble_eq_true rfl) ⟨Nat.le_of_ble_eq_true rfl, Nat.le_of_ble_eq_true rfl⟩ rfl (fun q_3 => ?_)
      refine w_iconst (q := 22) hc dX0_countHeld_21 ci_1 rfl ?_
      refine w_icmple (q := 25) (tgt := 28) hc dX0_countHeld_22 rfl rfl ?_ ?_
      · refine w_iincB (q := 31) (i := 2) (j := 2) (lv' := fun v2_4 => [(2, .int v2_4), (0, .ref cb), (1, .int v1_1)]) hc dX0_countHeld_28 rfl ci_1 (hN 2 rfl) (fun _ => rfl) rfl (fun v2_4 => ?_)
        refine w_goto (tgt := 4) hc dX0_countHeld_31 rfl ?_
        refine w_sub [1, 2, 0] rfl ?_
        exact ih v1_1 v2_4
      · refine w_iincB (q := 28) (i := 1) (j := 1) (lv' := fun v1_5 => [(1, .int v1_5), (0, .ref cb), (2, .int v2_2)]) hc dX0_countHeld_25 rfl ci_1 (hN 1 rfl) (fun _ => rfl) rfl (fun v1_5 => ?_)
        refine w_iincB (q := 31) (i := 2) (j := 2) (lv' := fun v2_6 => [(2, .int v2_6), (1, .int v1_5), (0, .ref cb)]) hc dX0_countHeld_28 rfl ci_1 (hN 2 rfl) (fun _ => rfl) rfl (fun v2_6 => ?_)
        refine w_goto (tgt := 4) hc dX0_countHeld_31 rfl ?_
        refine w_sub [2, 1, 0] rfl ?_
        exact ih v1_5 v2_6
set_option maxRecDepth 100000 in
set_option maxHeartbeats 4000000 in
theorem m_X0_countHeld {l : Launch} {K : KT} {R : MR} {rm : Nat} {cb : Nat} {I : MI} {L : ML} (hK0 : K = lK rm) (hR0 : R = lR rm) (hcb : isCh cb) : MFg l yX0_countHeld cX0_countHeld 3 (some .int) 1 20 [.ref cb] K R I L anI (meR I L) (f_X0_countHeld cb I L) := by
  refine mf_of (plainFor_of_name (by decide)) (Nat.le_of_ble_eq_true rfl) ?_
  intro G hc _ hK1 hR1 hn hq
  have hK := hK1.trans hK0
  have hR := hR1.trans hR0
  have hN : ∀ i, Nat.blt i 3 = true → i < gnL G := fun i h => hn ▸ Nat.blt_eq.mp h
  unfold f_X0_countHeld
  show WW G 0 [(0, .ref cb)] [] I L _
  refine w_iconst (q := 1) hc dX0_countHeld_0 ci_0 rfl ?_
  refine w_istore_n (q := 2) (i := 1) (lv' := [(1, .int 0), (0, .ref cb)]) hc dX0_countHeld_1 rfl (hN 1 rfl) rfl rfl ?_
  refine w_iconst (q := 3) hc dX0_countHeld_2 ci_0 rfl ?_
  refine w_istore_n (q := 4) (i := 2) (lv' := [(2, .int 0), (1, .int 0), (0, .ref cb)]) hc dX0_countHeld_3 rfl (hN 2 rfl) rfl rfl ?_
  refine w_sub [2, 1, 0] rfl ?_
  exact wl_X0_countHeld_4 cb I L hc hq hK hR hn hcb FU 0 0
set_option maxRecDepth 100000 in
set_option maxHeartbeats 4000000 in
theorem wl_X0_heldPoint_4 {G : GT Int32} {rm : Nat} (cb : Nat) (v1_1 : Int32) (I : MI) (L : ML) (hc : Cx G cX0_heldPoint yX0_heldPoint.cls (some .int) 1 20) (hq : RetQ G anI (meR I L)) (hK : gK G = lK rm) (hR : gR G = lR rm) (hn : gnL G = 4) (hcb : isCh cb) : ∀ (n : Nat) (v2_2 : Int32) (v3_3 : Int32), WW G 4 [(0, .ref cb), (1, .int v1_1), (2, .int v2_2), (3, .int v3_3)] [] I L (f_X0_heldPoint_4 cb v1_1 I L n v2_2 v3_3) := by
  have hN : ∀ i, Nat.blt i 4 = true → i < gnL G := fun i h => hn ▸ Nat.blt_eq.mp h
  intro n
  induction n with
  | zero => intros; exact w_none _ _ _
  | succ n ih =>
    intros v2_2 v3_3
    rw [f_X0_heldPoint_4]
    refine w_iload_n (q := 5) (i := 3) (j := 3) hc dX0_heldPoint_4 rfl rfl rfl ?_
    refine w_aload_n (q := 6) (i := 0) (j := 0) hc dX0_heldPoint_5 rfl rfl rfl ?_
    refine gf_X0_11 (q := 9) hc dX0_heldPoint_6 (kc_0 hK hcb) rfl ?_
    refine w_icmpge (q := 12) (tgt := 41) hc dX0_heldPoint_9 rfl rfl ?_ ?_
    · refine w_iconst (q := 42) hc dX0_heldPoint_41 ci_m1 rfl ?_
      exact w_ireturn (v := (-1)) hc hq dX0_heldPoint_42 rfl rfl rfl
    · refine w_aload_n (q := 13) (i := 0) (j := 0) hc dX0_heldPoint_12 rfl rfl rfl ?_
      refine gf_X0_19 (q := 16) hc dX0_heldPoint_13 (kc_0 hK hcb) (rc_2 hR hcb) rfl ?_
      refine w_iload_n (q := 17) (i := 3) (j := 3) hc dX0_heldPoint_16 rfl rfl rfl ?_
      refine w_iald (q := 18) hc dX0_heldPoint_17 (kc_1 hK hcb) rfl ?_
      refine w_callS_Ri (q := 21) (st := []) (args := [.int (I (cb + 1) (ix v3_3))]) hc (m_J6_bitCount_0f7a4 hK hR) dX0_heldPoint_18 ml_X0_92 cf_J6_bitCount_0f7a4 st_J6_bitCount_0f7a4 rfl rfl (Nat.le_of_ble_eq_true rfl) ⟨Nat.le_of_ble_eq_true rfl, Nat.le_of_ble_eq_true rfl⟩ rfl (fun q_4 => ?_)
      refine w_iconst (q := 22) hc dX0_heldPoint_21 ci_1 rfl ?_
      refine w_icmple (q := 25) (tgt := 35) hc dX0_heldPoint_22 rfl rfl ?_ ?_
      · refine w_iincB (q := 38) (i := 3) (j := 3) (lv' := fun v3_5 => [(3, .int v3_5), (0, .ref cb), (1, .int v1_1), (2, .int v2_2)]) hc dX0_heldPoint_35 rfl ci_1 (hN 3 rfl) (fun _ => rfl) rfl (fun v3_5 => ?_)
        refine w_goto (tgt := 4) hc dX0_heldPoint_38 rfl ?_
        refine w_sub [1, 2, 3, 0] rfl ?_
        exact ih v2_2 v3_5
      · refine w_iload_n (q := 26) (i := 2) (j := 2) hc dX0_heldPoint_25 rfl rfl rfl ?_
        refine w_iload_n (q := 27) (i := 1) (j := 1) hc dX0_heldPoint_26 rfl rfl rfl ?_
        refine w_icmpne (q := 30) (tgt := 32) hc dX0_heldPoint_27 rfl rfl ?_ ?_
        · refine w_iload_n (q := 31) (i := 3) (j := 3) hc dX0_heldPoint_30 rfl rfl rfl ?_
          exact w_ireturn (v := v3_3) hc hq dX0_heldPoint_31 rfl rfl rfl
        · refine w_iincB (q := 35) (i := 2) (j := 2) (lv' := fun v2_6 => [(2, .int v2_6), (0, .ref cb), (1, .int v1_1), (3, .int v3_3)]) hc dX0_heldPoint_32 rfl ci_1 (hN 2 rfl) (fun _ => rfl) rfl (fun v2_6 => ?_)
          refine w_iincB (q := 38) (i := 3) (j := 3) (lv' := fun v3_7 => [(3, .int v3_7), (2, .int v2_6), (0, .ref cb), (1, .int v1_1)]) hc dX0_heldPoint_35 rfl ci_1 (hN 3 rfl) (fun _ => rfl) rfl (fun v3_7 => ?_)
          refine w_goto (tgt := 4) hc dX0_heldPoint_38 rfl ?_
          refine w_sub [2, 3, 1, 0] rfl ?_
          exact ih v2_6 v3_7
set_option maxRecDepth 100000 in
set_option maxHeartbeats 4000000 in
theorem m_X0_heldPoint {l : Launch} {K : KT} {R : MR} {rm : Nat} {cb : Nat} {a1 : Int32} {I : MI} {L : ML} (hK0 : K = lK rm) (hR0 : R = lR rm) (hcb : isCh cb) : MFg l yX0_heldPoint cX0_heldPoint 4 (some .int) 1 20 [.ref cb, .int a1] K R I L anI (meR I L) (f_X0_heldPoint cb a1 I L) := by
  refine mf_of (plainFor_of_name (by decide)) (Nat.le_of_ble_eq_true rfl) ?_
  intro G hc _ hK1 hR1 hn hq
  have hK := hK1.trans hK0
  have hR := hR1.trans hR0
  have hN : ∀ i, Nat.blt i 4 = true → i < gnL G := fun i h => hn ▸ Nat.blt_eq.mp h
  unfold f_X0_heldPoint
  show WW G 0 [(0, .ref cb), (1, .int a1)] [] I L _
  refine w_iconst (q := 1) hc dX0_heldPoint_0 ci_0 rfl ?_
  refine w_istore_n (q := 2) (i := 2) (lv' := [(2, .int 0), (0, .ref cb), (1, .int a1)]) hc dX0_heldPoint_1 rfl (hN 2 rfl) rfl rfl ?_
  refine w_iconst (q := 3) hc dX0_heldPoint_2 ci_0 rfl ?_
  refine w_istore_n (q := 4) (i := 3) (lv' := [(3, .int 0), (2, .int 0), (0, .ref cb), (1, .int a1)]) hc dX0_heldPoint_3 rfl (hN 3 rfl) rfl rfl ?_
  refine w_sub [2, 3, 1, 0] rfl ?_
  exact wl_X0_heldPoint_4 cb a1 I L hc hq hK hR hn hcb FU 0 0
set_option maxRecDepth 100000 in
set_option maxHeartbeats 4000000 in
theorem wl_X0_countFree_2 {G : GT Int32} {rm : Nat} (cb : Nat) (I : MI) (L : ML) (hc : Cx G cX0_countFree yX0_countFree.cls (some .int) 1 20) (hq : RetQ G anI (meR I L)) (hK : gK G = lK rm) (hR : gR G = lR rm) (hn : gnL G = 2) (hcb : isCh cb) : ∀ (n : Nat) (v1_1 : Int32), WW G 2 [(0, .ref cb), (1, .int v1_1)] [] I L (f_X0_countFree_2 cb I L n v1_1) := by
  have hN : ∀ i, Nat.blt i 2 = true → i < gnL G := fun i h => hn ▸ Nat.blt_eq.mp h
  intro n
  induction n with
  | zero => intros; exact w_none _ _ _
  | succ n ih =>
    intros v1_1
    rw [f_X0_countFree_2]
    refine w_iload_n (q := 3) (i := 1) (j := 1) hc dX0_countFree_2 rfl rfl rfl ?_
    refine w_aload_n (q := 4) (i := 0) (j := 0) hc dX0_countFree_3 rfl rfl rfl ?_
    refine gf_X0_11 (q := 7) hc dX0_countFree_4 (kc_0 hK hcb) rfl ?_
    refine w_icmpge (q := 10) (tgt := 34) hc dX0_countFree_7 rfl rfl ?_ ?_
    · refine w_iload_n (q := 35) (i := 1) (j := 1) hc dX0_countFree_34 rfl rfl rfl ?_
      exact w_ireturn (v := v1_1) hc hq dX0_countFree_35 rfl rfl rfl
    · refine w_aload_n (q := 11) (i := 0) (j := 0) hc dX0_countFree_10 rfl rfl rfl ?_
      refine gf_X0_19 (q := 14) hc dX0_countFree_11 (kc_0 hK hcb) (rc_2 hR hcb) rfl ?_
      refine w_iload_n (q := 15) (i := 1) (j := 1) hc dX0_countFree_14 rfl rfl rfl ?_
      refine w_iald (q := 16) hc dX0_countFree_15 (kc_1 hK hcb) rfl ?_
      refine w_callS_Ri (q := 19) (st := []) (args := [.int (I (cb + 1) (ix v1_1))]) hc (m_J6_bitCount_0f7a4 hK hR) dX0_countFree_16 ml_X0_92 cf_J6_bitCount_0f7a4 st_J6_bitCount_0f7a4 rfl rfl (Nat.le_of_ble_eq_true rfl) ⟨Nat.le_of_ble_eq_true rfl, Nat.le_of_ble_eq_true rfl⟩ rfl (fun q_2 => ?_)
      refine w_aload_n (q := 20) (i := 0) (j := 0) hc dX0_countFree_19 rfl rfl rfl ?_
      refine gf_X0_11 (q := 23) hc dX0_countFree_20 (kc_0 hK hcb) rfl ?_
      refine w_iload_n (q := 24) (i := 1) (j := 1) hc dX0_countFree_23 rfl rfl rfl ?_
      refine w_isub (q := 25) hc dX0_countFree_24  rfl ?_
      refine w_icmpne (q := 28) (tgt := 34) hc dX0_countFree_25 rfl rfl ?_ ?_
      · refine w_iincB (q := 31) (i := 1) (j := 1) (lv' := fun v1_3 => [(1, .int v1_3), (0, .ref cb)]) hc dX0_countFree_28 rfl ci_1 (hN 1 rfl) (fun _ => rfl) rfl (fun v1_3 => ?_)
        refine w_goto (tgt := 2) hc dX0_countFree_31 rfl ?_
        refine w_sub [1, 0] rfl ?_
        exact ih v1_3
      · refine w_iload_n (q := 35) (i := 1) (j := 1) hc dX0_countFree_34 rfl rfl rfl ?_
        exact w_ireturn (v := v1_1) hc hq dX0_countFree_35 rfl rfl rfl
set_option maxRecDepth 100000 in
set_option maxHeartbeats 4000000 in
theorem m_X0_countFree {l : Launch} {K : KT} {R : MR} {rm : Nat} {cb : Nat} {I : MI} {L : ML} (hK0 : K = lK rm) (hR0 : R = lR rm) (hcb : isCh cb) : MFg l yX0_countFree cX0_countFree 2 (some .int) 1 20 [.ref cb] K R I L anI (meR I L) (f_X0_countFree cb I L) := by
  refine mf_of (plainFor_of_name (by decide)) (Nat.le_of_ble_eq_true rfl) ?_
  intro G hc _ hK1 hR1 hn hq
  have hK := hK1.trans hK0
  have hR := hR1.trans hR0
  have hN : ∀ i, Nat.blt i 2 = true → i < gnL G := fun i h => hn ▸ Nat.blt_eq.mp h
  unfold f_X0_countFree
  show WW G 0 [(0, .ref cb)] [] I L _
  refine w_iconst (q := 1) hc dX0_countFree_0 ci_0 rfl ?_
  refine w_istore_n (q := 2) (i := 1) (lv' := [(1, .int 0), (0, .ref cb)]) hc dX0_countFree_1 rfl (hN 1 rfl) rfl rfl ?_
  refine w_sub [1, 0] rfl ?_
  exact wl_X0_countFree_2 cb I L hc hq hK hR hn hcb FU 0
set_option maxRecDepth 100000 in
set_option maxHeartbeats 4000000 in
theorem m_X0_carrier {l : Launch} {K : KT} {R : MR} {rm : Nat} {cb : Nat} {a1 : Int32} {a2 : Int32} {I : MI} {L : ML} (hK0 : K = lK rm) (hR0 : R = lR rm) (hcb : isCh cb) : MFg l yX0_carrier cX0_carrier 3 (some .long) 0 0 [.ref cb, .int a1, .int a2] K R I L anL (meR I L) (f_X0_carrier cb a1 a2 I L) := by
  refine mf_of (plainFor_of_name (by decide)) (Nat.le_of_ble_eq_true rfl) ?_
  intro G hc _ hK1 hR1 hn hq
  have hK := hK1.trans hK0
  have hR := hR1.trans hR0
  have hN : ∀ i, Nat.blt i 3 = true → i < gnL G := fun i h => hn ▸ Nat.blt_eq.mp h
  unfold f_X0_carrier
  show WW G 0 [(0, .ref cb), (1, .int a1), (2, .int a2)] [] I L _
  refine w_aload_n (q := 1) (i := 0) (j := 0) hc dX0_carrier_0 rfl rfl rfl ?_
  refine gf_X0_23 (q := 4) hc dX0_carrier_1 (kc_0 hK hcb) (rc_3 hR hcb) rfl ?_
  refine w_iload_n (q := 5) (i := 1) (j := 1) hc dX0_carrier_4 rfl rfl rfl ?_
  refine w_bipush (q := 7) hc dX0_carrier_5 cb_16 rfl ?_
  refine w_imul (q := 8) hc dX0_carrier_7  rfl ?_
  refine w_iload_n (q := 9) (i := 2) (j := 2) hc dX0_carrier_8 rfl rfl rfl ?_
  refine w_iadd (q := 10) hc dX0_carrier_9  rfl ?_
  refine w_lald (q := 11) hc dX0_carrier_10 (kc_2 hK hcb) rfl ?_
  exact w_lreturn hc hq dX0_carrier_11 rfl rfl
set_option maxRecDepth 100000 in
set_option maxHeartbeats 4000000 in
theorem wl_X0_sourceOf_16 {G : GT Int32} {rm : Nat} (cb : Nat) (v1_2 : Int32) (v4_3 : Int32) (v5_4 : Int64) (I : MI) (L : ML) (hc : Cx G cX0_sourceOf yX0_sourceOf.cls (some .int) 1 26) (hq : RetQ G anI (meR I L)) (hK : gK G = lK rm) (hR : gR G = lR rm) (hn : gnL G = 10) (hcb : isCh cb) : ∀ (n : Nat) (v7_5 : Int32) (v8_6 : Int32), WW G 16 [(0, .ref cb), (1, .int v1_2), (4, .int v4_3), (5, .long v5_4), (7, .int v7_5), (8, .int v8_6)] [] I L (f_X0_sourceOf_16 cb v1_2 v4_3 v5_4 I L n v7_5 v8_6) := by
  have hN : ∀ i, Nat.blt i 10 = true → i < gnL G := fun i h => hn ▸ Nat.blt_eq.mp h
  intro n
  induction n with
  | zero => intros; exact w_none _ _ _
  | succ n ih =>
    intros v7_5 v8_6
    rw [f_X0_sourceOf_16]
    refine w_iload (q := 18) (i := 8) (j := 5) hc dX0_sourceOf_16 rfl rfl ?_
    refine w_aload_n (q := 19) (i := 0) (j := 0) hc dX0_sourceOf_18 rfl rfl rfl ?_
    refine gf_X0_11 (q := 22) hc dX0_sourceOf_19 (kc_0 hK hcb) rfl ?_
    refine w_icmpge (q := 25) (tgt := 67) hc dX0_sourceOf_22 rfl rfl ?_ ?_
    · refine w_iload_n (q := 68) (i := 1) (j := 1) hc dX0_sourceOf_67 rfl rfl rfl ?_
      exact w_ireturn (v := v1_2) hc hq dX0_sourceOf_68 rfl rfl rfl
    · refine w_lload (q := 27) (i := 5) (j := 3) hc dX0_sourceOf_25 rfl rfl ?_
      refine w_iload (q := 29) (i := 8) (j := 5) hc dX0_sourceOf_27 rfl rfl ?_
      refine w_callS_Ri (q := 32) (st := []) (args := [.long v5_4, .int v8_6]) hc (m_X6_image hK hR) dX0_sourceOf_29 ml_X0_69 cf_X6_image st_X6_image rfl rfl (Nat.le_of_ble_eq_true rfl) ⟨Nat.le_of_ble_eq_true rfl, Nat.le_of_ble_eq_true rfl⟩ rfl (fun q_7 => ?_)
      refine w_istore (q := 34) (i := 9) (lv' := [(9, .int q_7), (0, .ref cb), (1, .int v1_2), (4, .int v4_3), (5, .long v5_4), (7, .int v7_5), (8, .int v8_6)]) hc dX0_sourceOf_32 (hN 9 rfl) rfl rfl ?_
      refine w_aload_n (q := 35) (i := 0) (j := 1) hc dX0_sourceOf_34 rfl rfl rfl ?_
      refine gf_X0_19 (q := 38) hc dX0_sourceOf_35 (kc_0 hK hcb) (rc_2 hR hcb) rfl ?_
      refine w_iload_n (q := 39) (i := 1) (j := 2) hc dX0_sourceOf_38 rfl rfl rfl ?_
      refine w_iald (q := 40) hc dX0_sourceOf_39 (kc_1 hK hcb) rfl ?_
      refine w_iload (q := 42) (i := 9) (j := 0) hc dX0_sourceOf_40 rfl rfl ?_
      refine w_ishr (q := 43) hc dX0_sourceOf_42  rfl ?_
      refine w_iconst (q := 44) hc dX0_sourceOf_43 ci_1 rfl ?_
      refine w_iand (q := 45) hc dX0_sourceOf_44  rfl ?_
      refine w_ifeq (q := 48) (tgt := 61) hc dX0_sourceOf_45 rfl rfl ?_ ?_
      · refine w_iincB (q := 64) (i := 8) (j := 6) (lv' := fun v8_8 => [(8, .int v8_8), (9, .int q_7), (0, .ref cb), (1, .int v1_2), (4, .int v4_3), (5, .long v5_4), (7, .int v7_5)]) hc dX0_sourceOf_61 rfl ci_1 (hN 8 rfl) (fun _ => rfl) rfl (fun v8_8 => ?_)
        refine w_goto (tgt := 16) hc dX0_sourceOf_64 rfl ?_
        refine w_sub [2, 3, 4, 5, 6, 0] rfl ?_
        exact ih v7_5 v8_8
      · refine w_iload (q := 50) (i := 7) (j := 5) hc dX0_sourceOf_48 rfl rfl ?_
        refine w_iload (q := 52) (i := 4) (j := 3) hc dX0_sourceOf_50 rfl rfl ?_
        refine w_icmpne (q := 55) (tgt := 58) hc dX0_sourceOf_52 rfl rfl ?_ ?_
        · refine w_iload (q := 57) (i := 9) (j := 0) hc dX0_sourceOf_55 rfl rfl ?_
          exact w_ireturn (v := q_7) hc hq dX0_sourceOf_57 rfl rfl rfl
        · refine w_iincB (q := 61) (i := 7) (j := 5) (lv' := fun v7_9 => [(7, .int v7_9), (9, .int q_7), (0, .ref cb), (1, .int v1_2), (4, .int v4_3), (5, .long v5_4), (8, .int v8_6)]) hc dX0_sourceOf_58 rfl ci_1 (hN 7 rfl) (fun _ => rfl) rfl (fun v7_9 => ?_)
          refine w_iincB (q := 64) (i := 8) (j := 6) (lv' := fun v8_10 => [(8, .int v8_10), (7, .int v7_9), (9, .int q_7), (0, .ref cb), (1, .int v1_2), (4, .int v4_3), (5, .long v5_4)]) hc dX0_sourceOf_61 rfl ci_1 (hN 8 rfl) (fun _ => rfl) rfl (fun v8_10 => ?_)
          refine w_goto (tgt := 16) hc dX0_sourceOf_64 rfl ?_
          refine w_sub [3, 4, 5, 6, 1, 0] rfl ?_
          exact ih v7_9 v8_10
set_option maxRecDepth 100000 in
set_option maxHeartbeats 4000000 in
theorem m_X0_sourceOf {l : Launch} {K : KT} {R : MR} {rm : Nat} {cb : Nat} {a1 : Int32} {a2 : Int64} {a4 : Int32} {I : MI} {L : ML} (hK0 : K = lK rm) (hR0 : R = lR rm) (hcb : isCh cb) : MFg l yX0_sourceOf cX0_sourceOf 10 (some .int) 1 26 [.ref cb, .int a1, .long a2, .int a4] K R I L anI (meR I L) (f_X0_sourceOf cb a1 a2 a4 I L) := by
  refine mf_of (plainFor_of_name (by decide)) (Nat.le_of_ble_eq_true rfl) ?_
  intro G hc _ hK1 hR1 hn hq
  have hK := hK1.trans hK0
  have hR := hR1.trans hR0
  have hN : ∀ i, Nat.blt i 10 = true → i < gnL G := fun i h => hn ▸ Nat.blt_eq.mp h
  unfold f_X0_sourceOf
  show WW G 0 [(0, .ref cb), (1, .int a1), (2, .long a2), (4, .int a4)] [] I L _
  refine w_lload_n (q := 1) (i := 2) (j := 2) hc dX0_sourceOf_0 rfl rfl rfl ?_
  refine w_aload_n (q := 2) (i := 0) (j := 0) hc dX0_sourceOf_1 rfl rfl rfl ?_
  refine gf_X0_11 (q := 5) hc dX0_sourceOf_2 (kc_0 hK hcb) rfl ?_
  refine w_callS_Rl (q := 8) (st := []) (args := [.long a2, .int (I cb 0)]) hc (m_X6_invert hK hR) dX0_sourceOf_5 ml_X0_86 cf_X6_invert st_X6_invert rfl rfl (Nat.le_of_ble_eq_true rfl) ⟨Nat.le_of_ble_eq_true rfl, Nat.le_of_ble_eq_true rfl⟩ rfl (fun q_1 => ?_)
  refine w_lstore (q := 10) (i := 5) (lv' := [(5, .long q_1), (0, .ref cb), (1, .int a1), (2, .long a2), (4, .int a4)]) hc dX0_sourceOf_8 (hN 6 rfl) rfl rfl ?_
  refine w_iconst (q := 11) hc dX0_sourceOf_10 ci_0 rfl ?_
  refine w_istore (q := 13) (i := 7) (lv' := [(7, .int 0), (5, .long q_1), (0, .ref cb), (1, .int a1), (2, .long a2), (4, .int a4)]) hc dX0_sourceOf_11 (hN 7 rfl) rfl rfl ?_
  refine w_iconst (q := 14) hc dX0_sourceOf_13 ci_0 rfl ?_
  refine w_istore (q := 16) (i := 8) (lv' := [(8, .int 0), (7, .int 0), (5, .long q_1), (0, .ref cb), (1, .int a1), (2, .long a2), (4, .int a4)]) hc dX0_sourceOf_14 (hN 8 rfl) rfl rfl ?_
  refine w_sub [3, 4, 6, 2, 1, 0] rfl ?_
  exact wl_X0_sourceOf_16 cb a1 a4 q_1 I L hc hq hK hR hn hcb FU 0 0
set_option maxRecDepth 100000 in
set_option maxHeartbeats 4000000 in
theorem wl_X0_pick_11 {G : GT Int64} {rm : Nat} (cb : Nat) (I : MI) (L : ML) (hc : Cx G cX0_pick yX0_pick.cls (some .long) 2 55) (hq : RetQ G anL (meR I L)) (hK : gK G = lK rm) (hR : gR G = lR rm) (hn : gnL G = 8) (hcb : isCh cb) : ∀ (n : Nat) (v2_2 : Int64) (v4_3 : Int32) (v5_4 : Int32), WW G 11 [(0, .ref cb), (2, .long v2_2), (4, .int v4_3), (5, .int v5_4)] [] I L (f_X0_pick_11 cb I L n v2_2 v4_3 v5_4) := by
  have hN : ∀ i, Nat.blt i 8 = true → i < gnL G := fun i h => hn ▸ Nat.blt_eq.mp h
  intro n
  induction n with
  | zero => intros; exact w_none _ _ _
  | succ n ih =>
    intros v2_2 v4_3 v5_4
    rw [f_X0_pick_11]
    refine w_iload (q := 13) (i := 5) (j := 3) hc dX0_pick_11 rfl rfl ?_
    refine w_aload_n (q := 14) (i := 0) (j := 0) hc dX0_pick_13 rfl rfl rfl ?_
    refine gf_X0_11 (q := 17) hc dX0_pick_14 (kc_0 hK hcb) rfl ?_
    refine w_icmpge (q := 20) (tgt := 98) hc dX0_pick_17 rfl rfl ?_ ?_
    · refine w_lload_n (q := 99) (i := 2) (j := 1) hc dX0_pick_98 rfl rfl rfl ?_
      exact w_lreturn hc hq dX0_pick_99 rfl rfl
    · refine w_aload_n (q := 21) (i := 0) (j := 0) hc dX0_pick_20 rfl rfl rfl ?_
      refine w_iload (q := 23) (i := 5) (j := 3) hc dX0_pick_21 rfl rfl ?_
      refine w_iconst (q := 24) hc dX0_pick_23 ci_1 rfl ?_
      refine w_iadd (q := 25) hc dX0_pick_24  rfl ?_
      refine w_callV_Ri (q := 28) (st := []) (args := [.int (v5_4 + 1)]) (p := cb) hc (m_X0_sizeFrom hK hR hcb) dX0_pick_25 ml_X0_89 cf_X0_sizeFrom iv_X0_sizeFrom (kc_0 hK hcb) (C := RX0) (T := TX0) (N := 8) rfl rfl (Nat.lt_of_succ_le (Nat.le_of_ble_eq_true rfl)) rfl rfl (Nat.le_of_ble_eq_true rfl) ⟨Nat.le_of_ble_eq_true rfl, Nat.le_of_ble_eq_true rfl⟩ rfl (fun q_5 => ?_)
      refine w_istore (q := 30) (i := 6) (lv' := [(6, .int q_5), (0, .ref cb), (2, .long v2_2), (4, .int v4_3), (5, .int v5_4)]) hc dX0_pick_28 (hN 6 rfl) rfl rfl ?_
      refine w_iload (q := 32) (i := 6) (j := 0) hc dX0_pick_30 rfl rfl ?_
      refine w_ifle (q := 35) (tgt := 92) hc dX0_pick_32 rfl rfl ?_ ?_
      · refine w_iincB (q := 95) (i := 5) (j := 4) (lv' := fun v5_6 => [(5, .int v5_6), (6, .int q_5), (0, .ref cb), (2, .long v2_2), (4, .int v4_3)]) hc dX0_pick_92 rfl ci_1 (hN 5 rfl) (fun _ => rfl) rfl (fun v5_6 => ?_)
        refine w_goto (tgt := 11) hc dX0_pick_95 rfl ?_
        refine w_sub [2, 3, 4, 0] rfl ?_
        exact ih v2_2 v4_3 v5_6
      · refine w_aload_n (q := 36) (i := 0) (j := 1) hc dX0_pick_35 rfl rfl rfl ?_
        refine gf_X0_19 (q := 39) hc dX0_pick_36 (kc_0 hK hcb) (rc_2 hR hcb) rfl ?_
        refine w_iload (q := 41) (i := 5) (j := 4) hc dX0_pick_39 rfl rfl ?_
        refine w_iald (q := 42) hc dX0_pick_41 (kc_1 hK hcb) rfl ?_
        refine w_callS_Ri (q := 45) (st := []) (args := [.int (I (cb + 1) (ix v5_4))]) hc (m_J6_bitCount_0f7a4 hK hR) dX0_pick_42 ml_X0_92 cf_J6_bitCount_0f7a4 st_J6_bitCount_0f7a4 rfl rfl (Nat.le_of_ble_eq_true rfl) ⟨Nat.le_of_ble_eq_true rfl, Nat.le_of_ble_eq_true rfl⟩ rfl (fun q_7 => ?_)
        refine w_iconst (q := 46) hc dX0_pick_45 ci_1 rfl ?_
        refine w_icmple (q := 49) (tgt := 92) hc dX0_pick_46 rfl rfl ?_ ?_
        · refine w_iincB (q := 95) (i := 5) (j := 4) (lv' := fun v5_8 => [(5, .int v5_8), (6, .int q_5), (0, .ref cb), (2, .long v2_2), (4, .int v4_3)]) hc dX0_pick_92 rfl ci_1 (hN 5 rfl) (fun _ => rfl) rfl (fun v5_8 => ?_)
          refine w_goto (tgt := 11) hc dX0_pick_95 rfl ?_
          refine w_sub [2, 3, 4, 0] rfl ?_
          exact ih v2_2 v4_3 v5_8
        · refine w_aload_n (q := 50) (i := 0) (j := 1) hc dX0_pick_49 rfl rfl rfl ?_
          refine w_iload (q := 52) (i := 5) (j := 4) hc dX0_pick_50 rfl rfl ?_
          refine w_lload_n (q := 53) (i := 2) (j := 2) hc dX0_pick_52 rfl rfl rfl ?_
          refine w_iload (q := 55) (i := 4) (j := 3) hc dX0_pick_53 rfl rfl ?_
          refine w_iload (q := 57) (i := 6) (j := 0) hc dX0_pick_55 rfl rfl ?_
          refine w_idiv (q := 58) hc dX0_pick_57  rfl ?_
          refine w_callV_Ri (q := 61) (st := []) (args := [.int v5_4, .long v2_2, .int (v4_3 / q_5)]) (p := cb) hc (m_X0_sourceOf hK hR hcb) dX0_pick_58 ml_X0_97 cf_X0_sourceOf iv_X0_sourceOf (kc_0 hK hcb) (C := RX0) (T := TX0) (N := 8) rfl rfl (Nat.lt_of_succ_le (Nat.le_of_ble_eq_true rfl)) rfl rfl (Nat.le_of_ble_eq_true rfl) ⟨Nat.le_of_ble_eq_true rfl, Nat.le_of_ble_eq_true rfl⟩ rfl (fun q_9 => ?_)
          refine w_istore (q := 63) (i := 7) (lv' := [(7, .int q_9), (6, .int q_5), (0, .ref cb), (2, .long v2_2), (4, .int v4_3), (5, .int v5_4)]) hc dX0_pick_61 (hN 7 rfl) rfl rfl ?_
          refine w_iload (q := 65) (i := 4) (j := 4) hc dX0_pick_63 rfl rfl ?_
          refine w_iload (q := 67) (i := 6) (j := 1) hc dX0_pick_65 rfl rfl ?_
          refine w_irem (q := 68) hc dX0_pick_67  rfl ?_
          refine w_istoreB (q := 70) (i := 4) (lv' := fun v4_10 => [(4, .int v4_10), (7, .int q_9), (6, .int q_5), (0, .ref cb), (2, .long v2_2), (5, .int v5_4)]) hc dX0_pick_68 (hN 4 rfl) (fun _ => rfl) rfl (fun v4_10 => ?_)
          refine w_aload_n (q := 71) (i := 0) (j := 3) hc dX0_pick_70 rfl rfl rfl ?_
          refine gf_X0_23 (q := 74) hc dX0_pick_71 (kc_0 hK hcb) (rc_3 hR hcb) rfl ?_
          refine w_iload (q := 76) (i := 5) (j := 5) hc dX0_pick_74 rfl rfl ?_
          refine w_bipush (q := 78) hc dX0_pick_76 cb_16 rfl ?_
          refine w_imul (q := 79) hc dX0_pick_78  rfl ?_
          refine w_iload (q := 81) (i := 7) (j := 1) hc dX0_pick_79 rfl rfl ?_
          refine w_iadd (q := 82) hc dX0_pick_81  rfl ?_
          refine w_lald (q := 83) hc dX0_pick_82 (kc_2 hK hcb) rfl ?_
          refine w_lload_n (q := 84) (i := 2) (j := 4) hc dX0_pick_83 rfl rfl rfl ?_
          refine w_aload_n (q := 85) (i := 0) (j := 3) hc dX0_pick_84 rfl rfl rfl ?_
          refine gf_X0_11 (q := 88) hc dX0_pick_85 (kc_0 hK hcb) rfl ?_
          refine w_callS_Rl (q := 91) (st := []) (args := [.long (L (cb + 2) (ix ((v5_4 * 16) + q_9))), .long v2_2, .int (I cb 0)]) hc (m_X6_compose hK hR) dX0_pick_88 ml_X0_72 cf_X6_compose st_X6_compose rfl rfl (Nat.le_of_ble_eq_true rfl) ⟨Nat.le_of_ble_eq_true rfl, Nat.le_of_ble_eq_true rfl⟩ rfl (fun q_11 => ?_)
          refine w_lstore_n (q := 92) (i := 2) (lv' := [(2, .long q_11), (4, .int v4_10), (7, .int q_9), (6, .int q_5), (0, .ref cb), (5, .int v5_4)]) hc dX0_pick_91 rfl (hN 3 rfl) rfl rfl ?_
          refine w_iincB (q := 95) (i := 5) (j := 5) (lv' := fun v5_12 => [(5, .int v5_12), (2, .long q_11), (4, .int v4_10), (7, .int q_9), (6, .int q_5), (0, .ref cb)]) hc dX0_pick_92 rfl ci_1 (hN 5 rfl) (fun _ => rfl) rfl (fun v5_12 => ?_)
          refine w_goto (tgt := 11) hc dX0_pick_95 rfl ?_
          refine w_sub [5, 1, 2, 0] rfl ?_
          exact ih q_11 v4_10 v5_12
set_option maxRecDepth 100000 in
set_option maxHeartbeats 4000000 in
theorem m_X0_pick {l : Launch} {K : KT} {R : MR} {rm : Nat} {cb : Nat} {a1 : Int32} {I : MI} {L : ML} (hK0 : K = lK rm) (hR0 : R = lR rm) (hcb : isCh cb) : MFg l yX0_pick cX0_pick 8 (some .long) 2 55 [.ref cb, .int a1] K R I L anL (meR I L) (f_X0_pick cb a1 I L) := by
  refine mf_of (plainFor_of_name (by decide)) (Nat.le_of_ble_eq_true rfl) ?_
  intro G hc _ hK1 hR1 hn hq
  have hK := hK1.trans hK0
  have hR := hR1.trans hR0
  have hN : ∀ i, Nat.blt i 8 = true → i < gnL G := fun i h => hn ▸ Nat.blt_eq.mp h
  unfold f_X0_pick
  show WW G 0 [(0, .ref cb), (1, .int a1)] [] I L _
  refine w_aload_n (q := 1) (i := 0) (j := 0) hc dX0_pick_0 rfl rfl rfl ?_
  refine gf_X0_15 (q := 4) hc dX0_pick_1 (kc_0 hK hcb) rfl ?_
  refine w_lstore_nB (q := 5) (i := 2) (lv' := fun v2_1 => [(2, .long v2_1), (0, .ref cb), (1, .int a1)]) hc dX0_pick_4 rfl (hN 3 rfl) (fun _ => rfl) rfl (fun v2_1 => ?_)
  refine w_iload_n (q := 6) (i := 1) (j := 2) hc dX0_pick_5 rfl rfl rfl ?_
  refine w_istore (q := 8) (i := 4) (lv' := [(4, .int a1), (2, .long v2_1), (0, .ref cb), (1, .int a1)]) hc dX0_pick_6 (hN 4 rfl) rfl rfl ?_
  refine w_iconst (q := 9) hc dX0_pick_8 ci_0 rfl ?_
  refine w_istore (q := 11) (i := 5) (lv' := [(5, .int 0), (4, .int a1), (2, .long v2_1), (0, .ref cb), (1, .int a1)]) hc dX0_pick_9 (hN 5 rfl) rfl rfl ?_
  refine w_sub [3, 2, 1, 0] rfl ?_
  exact wl_X0_pick_11 cb I L hc hq hK hR hn hcb FU v2_1 a1 0
set_option maxRecDepth 100000 in
set_option maxHeartbeats 4000000 in
theorem wl_X0_countSources_6 {G : GT Int32} {rm : Nat} (cb : Nat) (v1_1 : Int32) (v2_2 : Int64) (v4_3 : Int32) (I : MI) (L : ML) (hc : Cx G cX0_countSources yX0_countSources.cls (some .int) 1 22) (hq : RetQ G anI (meR I L)) (hK : gK G = lK rm) (hR : gR G = lR rm) (hn : gnL G = 7) (hcb : isCh cb) : ∀ (n : Nat) (v5_4 : Int32) (v6_5 : Int32), WW G 6 [(0, .ref cb), (1, .int v1_1), (2, .long v2_2), (4, .int v4_3), (5, .int v5_4), (6, .int v6_5)] [] I L (f_X0_countSources_6 cb v1_1 v2_2 v4_3 I L n v5_4 v6_5) := by
  have hN : ∀ i, Nat.blt i 7 = true → i < gnL G := fun i h => hn ▸ Nat.blt_eq.mp h
  intro n
  induction n with
  | zero => intros; exact w_none _ _ _
  | succ n ih =>
    intros v5_4 v6_5
    rw [f_X0_countSources_6]
    refine w_iload (q := 8) (i := 6) (j := 5) hc dX0_countSources_6 rfl rfl ?_
    refine w_iload (q := 10) (i := 4) (j := 3) hc dX0_countSources_8 rfl rfl ?_
    refine w_icmpge (q := 13) (tgt := 39) hc dX0_countSources_10 rfl rfl ?_ ?_
    · refine w_iload (q := 41) (i := 5) (j := 4) hc dX0_countSources_39 rfl rfl ?_
      exact w_ireturn (v := v5_4) hc hq dX0_countSources_41 rfl rfl rfl
    · refine w_iload (q := 15) (i := 5) (j := 4) hc dX0_countSources_13 rfl rfl ?_
      refine w_aload_n (q := 16) (i := 0) (j := 0) hc dX0_countSources_15 rfl rfl rfl ?_
      refine gf_X0_19 (q := 19) hc dX0_countSources_16 (kc_0 hK hcb) (rc_2 hR hcb) rfl ?_
      refine w_iload_n (q := 20) (i := 1) (j := 1) hc dX0_countSources_19 rfl rfl rfl ?_
      refine w_iald (q := 21) hc dX0_countSources_20 (kc_1 hK hcb) rfl ?_
      refine w_lload_n (q := 22) (i := 2) (j := 2) hc dX0_countSources_21 rfl rfl rfl ?_
      refine w_iload (q := 24) (i := 6) (j := 5) hc dX0_countSources_22 rfl rfl ?_
      refine w_callS_Ri (q := 27) (st := [.int (I (cb + 1) (ix v1_1)), .int v5_4]) (args := [.long v2_2, .int v6_5]) hc (m_X6_image hK hR) dX0_countSources_24 ml_X0_69 cf_X6_image st_X6_image rfl rfl (Nat.le_of_ble_eq_true rfl) ⟨Nat.le_of_ble_eq_true rfl, Nat.le_of_ble_eq_true rfl⟩ rfl (fun q_6 => ?_)
      refine w_ishr (q := 28) hc dX0_countSources_27  rfl ?_
      refine w_iconst (q := 29) hc dX0_countSources_28 ci_1 rfl ?_
      refine w_iand (q := 30) hc dX0_countSources_29  rfl ?_
      refine w_iadd (q := 31) hc dX0_countSources_30  rfl ?_
      refine w_istoreB (q := 33) (i := 5) (lv' := fun v5_7 => [(5, .int v5_7), (0, .ref cb), (1, .int v1_1), (2, .long v2_2), (4, .int v4_3), (6, .int v6_5)]) hc dX0_countSources_31 (hN 5 rfl) (fun _ => rfl) rfl (fun v5_7 => ?_)
      refine w_iincB (q := 36) (i := 6) (j := 5) (lv' := fun v6_8 => [(6, .int v6_8), (5, .int v5_7), (0, .ref cb), (1, .int v1_1), (2, .long v2_2), (4, .int v4_3)]) hc dX0_countSources_33 rfl ci_1 (hN 6 rfl) (fun _ => rfl) rfl (fun v6_8 => ?_)
      refine w_goto (tgt := 6) hc dX0_countSources_36 rfl ?_
      refine w_sub [2, 3, 4, 5, 1, 0] rfl ?_
      exact ih v5_7 v6_8
set_option maxRecDepth 100000 in
set_option maxHeartbeats 4000000 in
theorem m_X0_countSources {l : Launch} {K : KT} {R : MR} {rm : Nat} {cb : Nat} {a1 : Int32} {a2 : Int64} {a4 : Int32} {I : MI} {L : ML} (hK0 : K = lK rm) (hR0 : R = lR rm) (hcb : isCh cb) : MFg l yX0_countSources cX0_countSources 7 (some .int) 1 22 [.ref cb, .int a1, .long a2, .int a4] K R I L anI (meR I L) (f_X0_countSources cb a1 a2 a4 I L) := by
  refine mf_of (plainFor_of_name (by decide)) (Nat.le_of_ble_eq_true rfl) ?_
  intro G hc _ hK1 hR1 hn hq
  have hK := hK1.trans hK0
  have hR := hR1.trans hR0
  have hN : ∀ i, Nat.blt i 7 = true → i < gnL G := fun i h => hn ▸ Nat.blt_eq.mp h
  unfold f_X0_countSources
  show WW G 0 [(0, .ref cb), (1, .int a1), (2, .long a2), (4, .int a4)] [] I L _
  refine w_iconst (q := 1) hc dX0_countSources_0 ci_0 rfl ?_
  refine w_istore (q := 3) (i := 5) (lv' := [(5, .int 0), (0, .ref cb), (1, .int a1), (2, .long a2), (4, .int a4)]) hc dX0_countSources_1 (hN 5 rfl) rfl rfl ?_
  refine w_iconst (q := 4) hc dX0_countSources_3 ci_0 rfl ?_
  refine w_istore (q := 6) (i := 6) (lv' := [(6, .int 0), (5, .int 0), (0, .ref cb), (1, .int a1), (2, .long a2), (4, .int a4)]) hc dX0_countSources_4 (hN 6 rfl) rfl rfl ?_
  refine w_sub [2, 3, 4, 5, 1, 0] rfl ?_
  exact wl_X0_countSources_6 cb a1 a2 a4 I L hc hq hK hR hn hcb FU 0 0
set_option maxRecDepth 100000 in
set_option maxHeartbeats 4000000 in
theorem wl_X0_placeOf_11 {G : GT Int32} {rm : Nat} (cb : Nat) (v1_2 : Int64) (I : MI) (L : ML) (hc : Cx G cX0_placeOf yX0_placeOf.cls (some .int) 2 48) (hq : RetQ G anI (meR I L)) (hK : gK G = lK rm) (hR : gR G = lR rm) (hn : gnL G = 11) (hcb : isCh cb) : ∀ (n : Nat) (v3_3 : Int64) (v5_4 : Int32) (v6_5 : Int32), WW G 11 [(0, .ref cb), (1, .long v1_2), (3, .long v3_3), (5, .int v5_4), (6, .int v6_5)] [] I L (f_X0_placeOf_11 cb v1_2 I L n v3_3 v5_4 v6_5) := by
  have hN : ∀ i, Nat.blt i 11 = true → i < gnL G := fun i h => hn ▸ Nat.blt_eq.mp h
  intro n
  induction n with
  | zero => intros; exact w_none _ _ _
  | succ n ih =>
    intros v3_3 v5_4 v6_5
    rw [f_X0_placeOf_11]
    refine w_iload (q := 13) (i := 6) (j := 4) hc dX0_placeOf_11 rfl rfl ?_
    refine w_aload_n (q := 14) (i := 0) (j := 0) hc dX0_placeOf_13 rfl rfl rfl ?_
    refine gf_X0_11 (q := 17) hc dX0_placeOf_14 (kc_0 hK hcb) rfl ?_
    refine w_icmpge (q := 20) (tgt := 116) hc dX0_placeOf_17 rfl rfl ?_ ?_
    · refine w_iload (q := 118) (i := 5) (j := 3) hc dX0_placeOf_116 rfl rfl ?_
      exact w_ireturn (v := v5_4) hc hq dX0_placeOf_118 rfl rfl rfl
    · refine w_lload_n (q := 21) (i := 1) (j := 1) hc dX0_placeOf_20 rfl rfl rfl ?_
      refine w_iload (q := 23) (i := 6) (j := 4) hc dX0_placeOf_21 rfl rfl ?_
      refine w_callS_Ri (q := 26) (st := []) (args := [.long v1_2, .int v6_5]) hc (m_X6_image hK hR) dX0_placeOf_23 ml_X0_69 cf_X6_image st_X6_image rfl rfl (Nat.le_of_ble_eq_true rfl) ⟨Nat.le_of_ble_eq_true rfl, Nat.le_of_ble_eq_true rfl⟩ rfl (fun q_6 => ?_)
      refine w_istore (q := 28) (i := 7) (lv' := [(7, .int q_6), (0, .ref cb), (1, .long v1_2), (3, .long v3_3), (5, .int v5_4), (6, .int v6_5)]) hc dX0_placeOf_26 (hN 7 rfl) rfl rfl ?_
      refine w_lload_n (q := 29) (i := 3) (j := 3) hc dX0_placeOf_28 rfl rfl rfl ?_
      refine w_aload_n (q := 30) (i := 0) (j := 1) hc dX0_placeOf_29 rfl rfl rfl ?_
      refine gf_X0_11 (q := 33) hc dX0_placeOf_30 (kc_0 hK hcb) rfl ?_
      refine w_callS_Rl (q := 36) (st := []) (args := [.long v3_3, .int (I cb 0)]) hc (m_X6_invert hK hR) dX0_placeOf_33 ml_X0_86 cf_X6_invert st_X6_invert rfl rfl (Nat.le_of_ble_eq_true rfl) ⟨Nat.le_of_ble_eq_true rfl, Nat.le_of_ble_eq_true rfl⟩ rfl (fun q_7 => ?_)
      refine w_lstore (q := 38) (i := 8) (lv' := [(8, .long q_7), (7, .int q_6), (0, .ref cb), (1, .long v1_2), (3, .long v3_3), (5, .int v5_4), (6, .int v6_5)]) hc dX0_placeOf_36 (hN 9 rfl) rfl rfl ?_
      refine w_lload (q := 40) (i := 8) (j := 0) hc dX0_placeOf_38 rfl rfl ?_
      refine w_iload (q := 42) (i := 7) (j := 1) hc dX0_placeOf_40 rfl rfl ?_
      refine w_callS_Ri (q := 45) (st := []) (args := [.long q_7, .int q_6]) hc (m_X6_image hK hR) dX0_placeOf_42 ml_X0_69 cf_X6_image st_X6_image rfl rfl (Nat.le_of_ble_eq_true rfl) ⟨Nat.le_of_ble_eq_true rfl, Nat.le_of_ble_eq_true rfl⟩ rfl (fun q_8 => ?_)
      refine w_istore (q := 47) (i := 10) (lv' := [(10, .int q_8), (8, .long q_7), (7, .int q_6), (0, .ref cb), (1, .long v1_2), (3, .long v3_3), (5, .int v5_4), (6, .int v6_5)]) hc dX0_placeOf_45 (hN 10 rfl) rfl rfl ?_
      refine w_aload_n (q := 48) (i := 0) (j := 3) hc dX0_placeOf_47 rfl rfl rfl ?_
      refine gf_X0_19 (q := 51) hc dX0_placeOf_48 (kc_0 hK hcb) (rc_2 hR hcb) rfl ?_
      refine w_iload (q := 53) (i := 6) (j := 7) hc dX0_placeOf_51 rfl rfl ?_
      refine w_iald (q := 54) hc dX0_placeOf_53 (kc_1 hK hcb) rfl ?_
      refine w_iload (q := 56) (i := 10) (j := 0) hc dX0_placeOf_54 rfl rfl ?_
      refine w_ishr (q := 57) hc dX0_placeOf_56  rfl ?_
      refine w_iconst (q := 58) hc dX0_placeOf_57 ci_1 rfl ?_
      refine w_iand (q := 59) hc dX0_placeOf_58  rfl ?_
      refine w_ifne (q := 62) (tgt := 64) hc dX0_placeOf_59 rfl rfl ?_ ?_
      · refine w_iconst (q := 63) hc dX0_placeOf_62 ci_m1 rfl ?_
        exact w_ireturn (v := (-1)) hc hq dX0_placeOf_63 rfl rfl rfl
      · refine w_iload (q := 66) (i := 5) (j := 6) hc dX0_placeOf_64 rfl rfl ?_
        refine w_aload_n (q := 67) (i := 0) (j := 3) hc dX0_placeOf_66 rfl rfl rfl ?_
        refine w_iload (q := 69) (i := 6) (j := 7) hc dX0_placeOf_67 rfl rfl ?_
        refine w_lload (q := 71) (i := 8) (j := 1) hc dX0_placeOf_69 rfl rfl ?_
        refine w_iload (q := 73) (i := 7) (j := 2) hc dX0_placeOf_71 rfl rfl ?_
        refine w_callV_Ri (q := 76) (st := [.int v5_4]) (args := [.int v6_5, .long q_7, .int q_6]) (p := cb) hc (m_X0_countSources hK hR hcb) dX0_placeOf_73 ml_X0_101 cf_X0_countSources iv_X0_countSources (kc_0 hK hcb) (C := RX0) (T := TX0) (N := 8) rfl rfl (Nat.lt_of_succ_le (Nat.le_of_ble_eq_true rfl)) rfl rfl (Nat.le_of_ble_eq_true rfl) ⟨Nat.le_of_ble_eq_true rfl, Nat.le_of_ble_eq_true rfl⟩ rfl (fun q_9 => ?_)
        refine w_aload_n (q := 77) (i := 0) (j := 3) hc dX0_placeOf_76 rfl rfl rfl ?_
        refine w_iload (q := 79) (i := 6) (j := 7) hc dX0_placeOf_77 rfl rfl ?_
        refine w_iconst (q := 80) hc dX0_placeOf_79 ci_1 rfl ?_
        refine w_iadd (q := 81) hc dX0_placeOf_80  rfl ?_
        refine w_callV_Ri (q := 84) (st := [.int q_9, .int v5_4]) (args := [.int (v6_5 + 1)]) (p := cb) hc (m_X0_sizeFrom hK hR hcb) dX0_placeOf_81 ml_X0_89 cf_X0_sizeFrom iv_X0_sizeFrom (kc_0 hK hcb) (C := RX0) (T := TX0) (N := 8) rfl rfl (Nat.lt_of_succ_le (Nat.le_of_ble_eq_true rfl)) rfl rfl (Nat.le_of_ble_eq_true rfl) ⟨Nat.le_of_ble_eq_true rfl, Nat.le_of_ble_eq_true rfl⟩ rfl (fun q_10 => ?_)
        refine w_imul (q := 85) hc dX0_placeOf_84  rfl ?_
        refine w_iadd (q := 86) hc dX0_placeOf_85  rfl ?_
        refine w_istoreB (q := 88) (i := 5) (lv' := fun v5_11 => [(5, .int v5_11), (10, .int q_8), (8, .long q_7), (7, .int q_6), (0, .ref cb), (1, .long v1_2), (3, .long v3_3), (6, .int v6_5)]) hc dX0_placeOf_86 (hN 5 rfl) (fun _ => rfl) rfl (fun v5_11 => ?_)
        refine w_aload_n (q := 89) (i := 0) (j := 4) hc dX0_placeOf_88 rfl rfl rfl ?_
        refine gf_X0_23 (q := 92) hc dX0_placeOf_89 (kc_0 hK hcb) (rc_3 hR hcb) rfl ?_
        refine w_iload (q := 94) (i := 6) (j := 7) hc dX0_placeOf_92 rfl rfl ?_
        refine w_bipush (q := 96) hc dX0_placeOf_94 cb_16 rfl ?_
        refine w_imul (q := 97) hc dX0_placeOf_96  rfl ?_
        refine w_iload (q := 99) (i := 10) (j := 1) hc dX0_placeOf_97 rfl rfl ?_
        refine w_iadd (q := 100) hc dX0_placeOf_99  rfl ?_
        refine w_lald (q := 101) hc dX0_placeOf_100 (kc_2 hK hcb) rfl ?_
        refine w_lload_n (q := 102) (i := 3) (j := 6) hc dX0_placeOf_101 rfl rfl rfl ?_
        refine w_aload_n (q := 103) (i := 0) (j := 4) hc dX0_placeOf_102 rfl rfl rfl ?_
        refine gf_X0_11 (q := 106) hc dX0_placeOf_103 (kc_0 hK hcb) rfl ?_
        refine w_callS_Rl (q := 109) (st := []) (args := [.long (L (cb + 2) (ix ((v6_5 * 16) + q_8))), .long v3_3, .int (I cb 0)]) hc (m_X6_compose hK hR) dX0_placeOf_106 ml_X0_72 cf_X6_compose st_X6_compose rfl rfl (Nat.le_of_ble_eq_true rfl) ⟨Nat.le_of_ble_eq_true rfl, Nat.le_of_ble_eq_true rfl⟩ rfl (fun q_12 => ?_)
        refine w_lstore_n (q := 110) (i := 3) (lv' := [(3, .long q_12), (5, .int v5_11), (10, .int q_8), (8, .long q_7), (7, .int q_6), (0, .ref cb), (1, .long v1_2), (6, .int v6_5)]) hc dX0_placeOf_109 rfl (hN 4 rfl) rfl rfl ?_
        refine w_iincB (q := 113) (i := 6) (j := 7) (lv' := fun v6_13 => [(6, .int v6_13), (3, .long q_12), (5, .int v5_11), (10, .int q_8), (8, .long q_7), (7, .int q_6), (0, .ref cb), (1, .long v1_2)]) hc dX0_placeOf_110 rfl ci_1 (hN 6 rfl) (fun _ => rfl) rfl (fun v6_13 => ?_)
        refine w_goto (tgt := 11) hc dX0_placeOf_113 rfl ?_
        refine w_sub [6, 7, 1, 2, 0] rfl ?_
        exact ih q_12 v5_11 v6_13
set_option maxRecDepth 100000 in
set_option maxHeartbeats 4000000 in
theorem m_X0_placeOf {l : Launch} {K : KT} {R : MR} {rm : Nat} {cb : Nat} {a1 : Int64} {I : MI} {L : ML} (hK0 : K = lK rm) (hR0 : R = lR rm) (hcb : isCh cb) : MFg l yX0_placeOf cX0_placeOf 11 (some .int) 2 48 [.ref cb, .long a1] K R I L anI (meR I L) (f_X0_placeOf cb a1 I L) := by
  refine mf_of (plainFor_of_name (by decide)) (Nat.le_of_ble_eq_true rfl) ?_
  intro G hc _ hK1 hR1 hn hq
  have hK := hK1.trans hK0
  have hR := hR1.trans hR0
  have hN : ∀ i, Nat.blt i 11 = true → i < gnL G := fun i h => hn ▸ Nat.blt_eq.mp h
  unfold f_X0_placeOf
  show WW G 0 [(0, .ref cb), (1, .long a1)] [] I L _
  refine w_aload_n (q := 1) (i := 0) (j := 0) hc dX0_placeOf_0 rfl rfl rfl ?_
  refine gf_X0_15 (q := 4) hc dX0_placeOf_1 (kc_0 hK hcb) rfl ?_
  refine w_lstore_nB (q := 5) (i := 3) (lv' := fun v3_1 => [(3, .long v3_1), (0, .ref cb), (1, .long a1)]) hc dX0_placeOf_4 rfl (hN 4 rfl) (fun _ => rfl) rfl (fun v3_1 => ?_)
  refine w_iconst (q := 6) hc dX0_placeOf_5 ci_0 rfl ?_
  refine w_istore (q := 8) (i := 5) (lv' := [(5, .int 0), (3, .long v3_1), (0, .ref cb), (1, .long a1)]) hc dX0_placeOf_6 (hN 5 rfl) rfl rfl ?_
  refine w_iconst (q := 9) hc dX0_placeOf_8 ci_0 rfl ?_
  refine w_istore (q := 11) (i := 6) (lv' := [(6, .int 0), (5, .int 0), (3, .long v3_1), (0, .ref cb), (1, .long a1)]) hc dX0_placeOf_9 (hN 6 rfl) rfl rfl ?_
  refine w_sub [3, 4, 2, 1, 0] rfl ?_
  exact wl_X0_placeOf_11 cb a1 I L hc hq hK hR hn hcb FU v3_1 0 0
