set_option maxRecDepth 100000 in
set_option maxHeartbeats 4000000 in
theorem m_X7_status {l : Launch} {K : KT} {R : MR} {rm : Nat} {I : MI} {L : ML} (hK0 : K = lK rm) (hR0 : R = lR rm) : MFg l yX7_status cX7_status 1 (some .int) 0 0 [.ref 0] K R I L anI (meR I L) (f_X7_status I L) := by
  refine mf_of (plainFor_of_name (by decide)) (Nat.le_of_ble_eq_true rfl) ?_
  intro G hc _ hK1 hR1 hn hq
  have hK := hK1.trans hK0
  have hR := hR1.trans hR0
  have hN : ∀ i, Nat.blt i 1 = true → i < gnL G := fun i h => hn ▸ Nat.blt_eq.mp h
  unfold f_X7_status
  show WW G 0 [(0, .ref 0)] [] I L _
  refine w_aload_n (q := 1) (i := 0) (j := 0) hc dX7_status_0 rfl rfl rfl ?_
  refine gf_X7_42 (q := 4) hc dX7_status_1 (k_0 hK) rfl ?_
  exact w_ireturn (v := (I 0 6)) hc hq dX7_status_4 rfl rfl rfl
set_option maxRecDepth 100000 in
set_option maxHeartbeats 4000000 in
theorem m_X7_feed {l : Launch} {K : KT} {R : MR} {rm : Nat} {a1 : Int32} {a2 : Int32} {a3 : Int32} {a4 : Int32} {a5 : Int32} {I : MI} {L : ML} (hK0 : K = lK rm) (hR0 : R = lR rm) : MFg l yX7_feed cX7_feed 6 (some .int) 1 22 [.ref 0, .int a1, .int a2, .int a3, .int a4, .int a5] K R I L anIW meW (f_X7_feed a1 a2 a3 a4 a5 I L) := by
  refine mf_of (plainFor_of_name (by decide)) (Nat.le_of_ble_eq_true rfl) ?_
  intro G hc _ hK1 hR1 hn hq
  have hK := hK1.trans hK0
  have hR := hR1.trans hR0
  have hN : ∀ i, Nat.blt i 6 = true → i < gnL G := fun i h => hn ▸ Nat.blt_eq.mp h
  unfold f_X7_feed
  show WW G 0 [(0, .ref 0), (1, .int a1), (2, .int a2), (3, .int a3), (4, .int a4), (5, .int a5)] [] I L _
  refine w_aload_n (q := 1) (i := 0) (j := 0) hc dX7_feed_0 rfl rfl rfl ?_
  refine gf_X7_10 (q := 4) hc dX7_feed_1 (k_0 hK) (r_0_0 hR) rfl ?_
  refine w_bipush (q := 6) hc dX7_feed_4 cb_20 rfl ?_
  refine w_callV_Rz (q := 9) (st := []) (args := [.int 20]) (p := 1) hc (m_X5_hasRoom hK hR) dX7_feed_6 ml_X7_45 cf_X5_hasRoom iv_X5_hasRoom (k_1 hK) (C := RX5) (T := TX5) (N := 16) rfl rfl (Nat.lt_of_succ_le (Nat.le_of_ble_eq_true rfl)) rfl rfl (Nat.le_of_ble_eq_true rfl) ⟨Nat.le_of_ble_eq_true rfl, Nat.le_of_ble_eq_true rfl⟩ rfl (fun q_1 => ?_)
  refine w_ifne (q := 12) (tgt := 14) hc dX7_feed_9 rfl rfl ?_ ?_
  · refine w_iconst (q := 13) hc dX7_feed_12 ci_m1 rfl ?_
    exact w_ireturn (v := (-1)) hc hq dX7_feed_13 rfl rfl rfl
  · refine w_aload_n (q := 15) (i := 0) (j := 0) hc dX7_feed_14 rfl rfl rfl ?_
    refine gf_X7_10 (q := 18) hc dX7_feed_15 (k_0 hK) (r_0_0 hR) rfl ?_
    refine w_iload_n (q := 19) (i := 1) (j := 1) hc dX7_feed_18 rfl rfl rfl ?_
    refine w_callV_Wv (q := 22) (st := []) (args := [.int a1]) (p := 1) hc (m_X5_append hK hR) dX7_feed_19 ml_X7_49 cf_X5_append iv_X5_append (k_1 hK) (C := RX5) (T := TX5) (N := 16) rfl rfl (Nat.lt_of_succ_le (Nat.le_of_ble_eq_true rfl)) rfl rfl (Nat.le_of_ble_eq_true rfl) ⟨Nat.le_of_ble_eq_true rfl, Nat.le_of_ble_eq_true rfl⟩ rfl (fun q_2 => ?_)
    refine w_aload_n (q := 23) (i := 0) (j := 0) hc dX7_feed_22 rfl rfl rfl ?_
    refine gf_X7_10 (q := 26) hc dX7_feed_23 (k_0 hK) (r_0_0 hR) rfl ?_
    refine w_iload_n (q := 27) (i := 2) (j := 2) hc dX7_feed_26 rfl rfl rfl ?_
    refine w_callV_Wv (q := 30) (st := []) (args := [.int a2]) (p := 1) hc (m_X5_append hK hR) dX7_feed_27 ml_X7_49 cf_X5_append iv_X5_append (k_1 hK) (C := RX5) (T := TX5) (N := 16) rfl rfl (Nat.lt_of_succ_le (Nat.le_of_ble_eq_true rfl)) rfl rfl (Nat.le_of_ble_eq_true rfl) ⟨Nat.le_of_ble_eq_true rfl, Nat.le_of_ble_eq_true rfl⟩ rfl (fun q_3 => ?_)
    refine w_aload_n (q := 31) (i := 0) (j := 0) hc dX7_feed_30 rfl rfl rfl ?_
    refine gf_X7_10 (q := 34) hc dX7_feed_31 (k_0 hK) (r_0_0 hR) rfl ?_
    refine w_iload_n (q := 35) (i := 3) (j := 3) hc dX7_feed_34 rfl rfl rfl ?_
    refine w_callV_Wv (q := 38) (st := []) (args := [.int a3]) (p := 1) hc (m_X5_append hK hR) dX7_feed_35 ml_X7_49 cf_X5_append iv_X5_append (k_1 hK) (C := RX5) (T := TX5) (N := 16) rfl rfl (Nat.lt_of_succ_le (Nat.le_of_ble_eq_true rfl)) rfl rfl (Nat.le_of_ble_eq_true rfl) ⟨Nat.le_of_ble_eq_true rfl, Nat.le_of_ble_eq_true rfl⟩ rfl (fun q_4 => ?_)
    refine w_aload_n (q := 39) (i := 0) (j := 0) hc dX7_feed_38 rfl rfl rfl ?_
    refine gf_X7_10 (q := 42) hc dX7_feed_39 (k_0 hK) (r_0_0 hR) rfl ?_
    refine w_iload (q := 44) (i := 4) (j := 4) hc dX7_feed_42 rfl rfl ?_
    refine w_callV_Wv (q := 47) (st := []) (args := [.int a4]) (p := 1) hc (m_X5_append hK hR) dX7_feed_44 ml_X7_49 cf_X5_append iv_X5_append (k_1 hK) (C := RX5) (T := TX5) (N := 16) rfl rfl (Nat.lt_of_succ_le (Nat.le_of_ble_eq_true rfl)) rfl rfl (Nat.le_of_ble_eq_true rfl) ⟨Nat.le_of_ble_eq_true rfl, Nat.le_of_ble_eq_true rfl⟩ rfl (fun q_5 => ?_)
    refine w_aload_n (q := 48) (i := 0) (j := 0) hc dX7_feed_47 rfl rfl rfl ?_
    refine gf_X7_10 (q := 51) hc dX7_feed_48 (k_0 hK) (r_0_0 hR) rfl ?_
    refine w_iload (q := 53) (i := 5) (j := 5) hc dX7_feed_51 rfl rfl ?_
    refine w_callV_Wv (q := 56) (st := []) (args := [.int a5]) (p := 1) hc (m_X5_append hK hR) dX7_feed_53 ml_X7_49 cf_X5_append iv_X5_append (k_1 hK) (C := RX5) (T := TX5) (N := 16) rfl rfl (Nat.lt_of_succ_le (Nat.le_of_ble_eq_true rfl)) rfl rfl (Nat.le_of_ble_eq_true rfl) ⟨Nat.le_of_ble_eq_true rfl, Nat.le_of_ble_eq_true rfl⟩ rfl (fun q_6 => ?_)
    refine w_aload_n (q := 57) (i := 0) (j := 0) hc dX7_feed_56 rfl rfl rfl ?_
    refine gf_X7_10 (q := 60) hc dX7_feed_57 (k_0 hK) (r_0_0 hR) rfl ?_
    refine gf_X7_53 (q := 63) hc dX7_feed_60 (k_1 hK) rfl ?_
    exact w_ireturn (v := (q_6.1 1 1)) hc hq dX7_feed_63 rfl rfl rfl
set_option maxRecDepth 100000 in
set_option maxHeartbeats 4000000 in
theorem m_X7_refuse {l : Launch} {K : KT} {R : MR} {rm : Nat} {a1 : Int32} {I : MI} {L : ML} (hK0 : K = lK rm) (hR0 : R = lR rm) : MFg l yX7_refuse cX7_refuse 2 (some .int) 0 0 [.ref 0, .int a1] K R I L anIW meW (f_X7_refuse a1 I L) := by
  refine mf_of (plainFor_of_name (by decide)) (Nat.le_of_ble_eq_true rfl) ?_
  intro G hc _ hK1 hR1 hn hq
  have hK := hK1.trans hK0
  have hR := hR1.trans hR0
  have hN : ∀ i, Nat.blt i 2 = true → i < gnL G := fun i h => hn ▸ Nat.blt_eq.mp h
  unfold f_X7_refuse
  show WW G 0 [(0, .ref 0), (1, .int a1)] [] I L _
  refine w_aload_n (q := 1) (i := 0) (j := 0) hc dX7_refuse_0 rfl rfl rfl ?_
  refine w_iload_n (q := 2) (i := 1) (j := 1) hc dX7_refuse_1 rfl rfl rfl ?_
  refine pf_X7_42 (q := 5) hc dX7_refuse_2 (k_0 hK) rfl (fun I_1 => ?_)
  refine w_iconst (q := 6) hc dX7_refuse_5 ci_m1 rfl ?_
  exact w_ireturn (v := (-1)) hc hq dX7_refuse_6 rfl rfl rfl
set_option maxRecDepth 100000 in
set_option maxHeartbeats 4000000 in
theorem m_X7_tell {l : Launch} {K : KT} {R : MR} {rm : Nat} {a1 : Int32} {I : MI} {L : ML} (hK0 : K = lK rm) (hR0 : R = lR rm) : MFg l yX7_tell cX7_tell 2 (some .int) 0 0 [.ref 0, .int a1] K R I L anIW meW (f_X7_tell a1 I L) := by
  refine mf_of (plainFor_of_name (by decide)) (Nat.le_of_ble_eq_true rfl) ?_
  intro G hc _ hK1 hR1 hn hq
  have hK := hK1.trans hK0
  have hR := hR1.trans hR0
  have hN : ∀ i, Nat.blt i 2 = true → i < gnL G := fun i h => hn ▸ Nat.blt_eq.mp h
  unfold f_X7_tell
  show WW G 0 [(0, .ref 0), (1, .int a1)] [] I L _
  refine w_aload_n (q := 1) (i := 0) (j := 0) hc dX7_tell_0 rfl rfl rfl ?_
  refine w_iconst (q := 2) hc dX7_tell_1 ci_0 rfl ?_
  refine pf_X7_42 (q := 5) hc dX7_tell_2 (k_0 hK) rfl (fun I_1 => ?_)
  refine w_iload_n (q := 6) (i := 1) (j := 1) hc dX7_tell_5 rfl rfl rfl ?_
  exact w_ireturn (v := a1) hc hq dX7_tell_6 rfl rfl rfl
set_option maxRecDepth 100000 in
set_option maxHeartbeats 4000000 in
theorem m_X7_load {l : Launch} {K : KT} {R : MR} {rm : Nat} {a1 : Int32} {I : MI} {L : ML} (hK0 : K = lK rm) (hR0 : R = lR rm) : MFg l yX7_load cX7_load 2 (some .int) 10 215 [.ref 0, .int a1] K R I L anIW meW (f_X7_load a1 I L) := by
  refine mf_of (plainFor_of_name (by decide)) (Nat.le_of_ble_eq_true rfl) ?_
  intro G hc _ hK1 hR1 hn hq
  have hK := hK1.trans hK0
  have hR := hR1.trans hR0
  have hN : ∀ i, Nat.blt i 2 = true → i < gnL G := fun i h => hn ▸ Nat.blt_eq.mp h
  unfold f_X7_load
  show WW G 0 [(0, .ref 0), (1, .int a1)] [] I L _
  refine w_iload_n (q := 1) (i := 1) (j := 1) hc dX7_load_0 rfl rfl rfl ?_
  refine w_iflt (q := 4) (tgt := 15) hc dX7_load_1 rfl rfl ?_ ?_
  · refine w_aload_n (q := 16) (i := 0) (j := 0) hc dX7_load_15 rfl rfl rfl ?_
    refine w_iconst (q := 17) hc dX7_load_16 ci_1 rfl ?_
    refine w_callV_Wi (q := 20) (st := []) (args := [.int 1]) (p := 0) hc (m_X7_refuse hK hR) dX7_load_17 ml_X7_56 cf_X7_refuse iv_X7_refuse (k_0 hK) (C := RX7) (T := TX7) (N := 7) rfl rfl (Nat.lt_of_succ_le (Nat.le_of_ble_eq_true rfl)) rfl rfl (Nat.le_of_ble_eq_true rfl) ⟨Nat.le_of_ble_eq_true rfl, Nat.le_of_ble_eq_true rfl⟩ rfl (fun q_1 => ?_)
    exact w_ireturn (v := q_1.1) hc hq dX7_load_20 rfl rfl rfl
  · refine w_iload_n (q := 5) (i := 1) (j := 1) hc dX7_load_4 rfl rfl rfl ?_
    refine w_aload_n (q := 6) (i := 0) (j := 0) hc dX7_load_5 rfl rfl rfl ?_
    refine gf_X7_10 (q := 9) hc dX7_load_6 (k_0 hK) (r_0_0 hR) rfl ?_
    refine gf_X7_53 (q := 12) hc dX7_load_9 (k_1 hK) rfl ?_
    refine w_icmple (q := 15) (tgt := 21) hc dX7_load_12 rfl rfl ?_ ?_
    · refine w_aload_n (q := 22) (i := 0) (j := 0) hc dX7_load_21 rfl rfl rfl ?_
      refine gf_X7_10 (q := 25) hc dX7_load_22 (k_0 hK) (r_0_0 hR) rfl ?_
      refine w_iload_n (q := 26) (i := 1) (j := 1) hc dX7_load_25 rfl rfl rfl ?_
      refine w_callV_Wz (q := 29) (st := []) (args := [.int a1]) (p := 1) hc (m_X5_parse hK hR) dX7_load_26 ml_X7_60 cf_X5_parse iv_X5_parse (k_1 hK) (C := RX5) (T := TX5) (N := 16) rfl rfl (Nat.lt_of_succ_le (Nat.le_of_ble_eq_true rfl)) rfl rfl (Nat.le_of_ble_eq_true rfl) ⟨Nat.le_of_ble_eq_true rfl, Nat.le_of_ble_eq_true rfl⟩ rfl (fun q_2 => ?_)
      refine w_ifne (q := 32) (tgt := 39) hc dX7_load_29 rfl rfl ?_ ?_
      · refine w_aload_n (q := 33) (i := 0) (j := 0) hc dX7_load_32 rfl rfl rfl ?_
        refine w_bipush (q := 35) hc dX7_load_33 cb_9 rfl ?_
        refine w_callV_Wi (q := 38) (st := []) (args := [.int 9]) (p := 0) hc (m_X7_refuse hK hR) dX7_load_35 ml_X7_56 cf_X7_refuse iv_X7_refuse (k_0 hK) (C := RX7) (T := TX7) (N := 7) rfl rfl (Nat.lt_of_succ_le (Nat.le_of_ble_eq_true rfl)) rfl rfl (Nat.le_of_ble_eq_true rfl) ⟨Nat.le_of_ble_eq_true rfl, Nat.le_of_ble_eq_true rfl⟩ rfl (fun q_8 => ?_)
        exact w_ireturn (v := q_8.1) hc hq dX7_load_38 rfl rfl rfl
      · refine w_aload_n (q := 40) (i := 0) (j := 0) hc dX7_load_39 rfl rfl rfl ?_
        refine gf_X7_19 (q := 43) hc dX7_load_40 (k_0 hK) (r_0_1 hR) rfl ?_
        refine w_aload_n (q := 44) (i := 0) (j := 0) hc dX7_load_43 rfl rfl rfl ?_
        refine gf_X7_10 (q := 47) hc dX7_load_44 (k_0 hK) (r_0_0 hR) rfl ?_
        refine gf_X7_63 (q := 50) hc dX7_load_47 (k_1 hK) rfl ?_
        refine w_aload_n (q := 51) (i := 0) (j := 0) hc dX7_load_50 rfl rfl rfl ?_
        refine gf_X7_10 (q := 54) hc dX7_load_51 (k_0 hK) (r_0_0 hR) rfl ?_
        refine gf_X7_66 (q := 57) hc dX7_load_54 (k_1 hK) (r_1_9 hR) rfl ?_
        refine w_aload_n (q := 58) (i := 0) (j := 0) hc dX7_load_57 rfl rfl rfl ?_
        refine gf_X7_10 (q := 61) hc dX7_load_58 (k_0 hK) (r_0_0 hR) rfl ?_
        refine gf_X7_70 (q := 64) hc dX7_load_61 (k_1 hK) rfl ?_
        refine w_callV_Wv (q := 67) (st := []) (args := [.int (q_2.2.1 1 7), .ref 3, .int (q_2.2.1 1 8)]) (p := 6) hc (m_X2_become hK hR (kB hK (k_3 hK))) dX7_load_64 ml_X7_73 cf_X2_become iv_X2_become (k_6 hK) (C := RX2) (T := TX2) (N := 13) rfl rfl (Nat.lt_of_succ_le (Nat.le_of_ble_eq_true rfl)) rfl rfl (Nat.le_of_ble_eq_true rfl) ⟨Nat.le_of_ble_eq_true rfl, Nat.le_of_ble_eq_true rfl⟩ rfl (fun q_3 => ?_)
        refine w_aload_n (q := 68) (i := 0) (j := 0) hc dX7_load_67 rfl rfl rfl ?_
        refine w_aload_n (q := 69) (i := 0) (j := 0) hc dX7_load_68 rfl rfl rfl ?_
        refine gf_X7_10 (q := 72) hc dX7_load_69 (k_0 hK) (r_0_0 hR) rfl ?_
        refine gf_X7_63 (q := 75) hc dX7_load_72 (k_1 hK) rfl ?_
        refine w_callS_Rl (q := 78) (st := [.ref 0]) (args := [.int (q_3.1 1 7)]) hc (m_X6_identity hK hR) dX7_load_75 ml_X7_77 cf_X6_identity st_X6_identity rfl rfl (Nat.le_of_ble_eq_true rfl) ⟨Nat.le_of_ble_eq_true rfl, Nat.le_of_ble_eq_true rfl⟩ rfl (fun q_4 => ?_)
        refine pf_X7_38 (q := 81) hc dX7_load_78 (k_0 hK) rfl (fun L_5 => ?_)
        refine w_aload_n (q := 82) (i := 0) (j := 0) hc dX7_load_81 rfl rfl rfl ?_
        refine gf_X7_26 (q := 85) hc dX7_load_82 (k_0 hK) (r_0_2 hR) rfl ?_
        refine w_callV_Wv (q := 88) (st := []) (args := []) (p := 37) hc (m_X3_forget hK hR) dX7_load_85 ml_X7_83 cf_X3_forget iv_X3_forget (k_37 hK) (C := RX3) (T := TX3) (N := 7) rfl rfl (Nat.lt_of_succ_le (Nat.le_of_ble_eq_true rfl)) rfl rfl (Nat.le_of_ble_eq_true rfl) ⟨Nat.le_of_ble_eq_true rfl, Nat.le_of_ble_eq_true rfl⟩ rfl (fun q_6 => ?_)
        refine w_aload_n (q := 89) (i := 0) (j := 0) hc dX7_load_88 rfl rfl rfl ?_
        refine w_aload_n (q := 90) (i := 0) (j := 0) hc dX7_load_89 rfl rfl rfl ?_
        refine gf_X7_10 (q := 93) hc dX7_load_90 (k_0 hK) (r_0_0 hR) rfl ?_
        refine gf_X7_70 (q := 96) hc dX7_load_93 (k_1 hK) rfl ?_
        refine w_callV_Wi (q := 99) (st := []) (args := [.int (q_6.1 1 8)]) (p := 0) hc (m_X7_tell hK hR) dX7_load_96 ml_X7_86 cf_X7_tell iv_X7_tell (k_0 hK) (C := RX7) (T := TX7) (N := 7) rfl rfl (Nat.lt_of_succ_le (Nat.le_of_ble_eq_true rfl)) rfl rfl (Nat.le_of_ble_eq_true rfl) ⟨Nat.le_of_ble_eq_true rfl, Nat.le_of_ble_eq_true rfl⟩ rfl (fun q_7 => ?_)
        exact w_ireturn (v := q_7.1) hc hq dX7_load_99 rfl rfl rfl
    · refine w_aload_n (q := 16) (i := 0) (j := 0) hc dX7_load_15 rfl rfl rfl ?_
      refine w_iconst (q := 17) hc dX7_load_16 ci_1 rfl ?_
      refine w_callV_Wi (q := 20) (st := []) (args := [.int 1]) (p := 0) hc (m_X7_refuse hK hR) dX7_load_17 ml_X7_56 cf_X7_refuse iv_X7_refuse (k_0 hK) (C := RX7) (T := TX7) (N := 7) rfl rfl (Nat.lt_of_succ_le (Nat.le_of_ble_eq_true rfl)) rfl rfl (Nat.le_of_ble_eq_true rfl) ⟨Nat.le_of_ble_eq_true rfl, Nat.le_of_ble_eq_true rfl⟩ rfl (fun q_9 => ?_)
      exact w_ireturn (v := q_9.1) hc hq dX7_load_20 rfl rfl rfl
set_option maxRecDepth 100000 in
set_option maxHeartbeats 4000000 in
theorem m_X7_fault {l : Launch} {K : KT} {R : MR} {rm : Nat} {a1 : Int32} {I : MI} {L : ML} (hK0 : K = lK rm) (hR0 : R = lR rm) : MFg l yX7_fault cX7_fault 2 (some .int) 0 0 [.ref 0, .int a1] K R I L anI (meR I L) (f_X7_fault a1 I L) := by
  refine mf_of (plainFor_of_name (by decide)) (Nat.le_of_ble_eq_true rfl) ?_
  intro G hc _ hK1 hR1 hn hq
  have hK := hK1.trans hK0
  have hR := hR1.trans hR0
  have hN : ∀ i, Nat.blt i 2 = true → i < gnL G := fun i h => hn ▸ Nat.blt_eq.mp h
  unfold f_X7_fault
  show WW G 0 [(0, .ref 0), (1, .int a1)] [] I L _
  refine w_iload_n (q := 1) (i := 1) (j := 1) hc dX7_fault_0 rfl rfl rfl ?_
  refine w_ifne (q := 4) (tgt := 12) hc dX7_fault_1 rfl rfl ?_ ?_
  · refine w_aload_n (q := 5) (i := 0) (j := 0) hc dX7_fault_4 rfl rfl rfl ?_
    refine gf_X7_10 (q := 8) hc dX7_fault_5 (k_0 hK) (r_0_0 hR) rfl ?_
    refine gf_X7_89 (q := 11) hc dX7_fault_8 (k_1 hK) rfl ?_
    exact w_ireturn (v := (I 1 14)) hc hq dX7_fault_11 rfl rfl rfl
  · refine w_iload_n (q := 13) (i := 1) (j := 1) hc dX7_fault_12 rfl rfl rfl ?_
    refine w_iconst (q := 14) hc dX7_fault_13 ci_1 rfl ?_
    refine w_icmpne (q := 17) (tgt := 27) hc dX7_fault_14 rfl rfl ?_ ?_
    · refine w_aload_n (q := 18) (i := 0) (j := 0) hc dX7_fault_17 rfl rfl rfl ?_
      refine gf_X7_10 (q := 21) hc dX7_fault_18 (k_0 hK) (r_0_0 hR) rfl ?_
      refine gf_X7_92 (q := 24) hc dX7_fault_21 (k_1 hK) rfl ?_
      refine w_goto (tgt := 28) hc dX7_fault_24 rfl ?_
      exact w_ireturn (v := (I 1 15)) hc hq dX7_fault_28 rfl rfl rfl
    · refine w_iconst (q := 28) hc dX7_fault_27 ci_m1 rfl ?_
      exact w_ireturn (v := (-1)) hc hq dX7_fault_28 rfl rfl rfl
set_option maxRecDepth 100000 in
set_option maxHeartbeats 4000000 in
theorem m_X7_isHome {l : Launch} {K : KT} {R : MR} {rm : Nat} {a1 : Int64} {I : MI} {L : ML} (hK0 : K = lK rm) (hR0 : R = lR rm) : MFg l yX7_isHome cX7_isHome 3 (some .boolean) 1 23 [.ref 0, .long a1] K R I L anZ (meR I L) (f_X7_isHome a1 I L) := by
  refine mf_of (plainFor_of_name (by decide)) (Nat.le_of_ble_eq_true rfl) ?_
  intro G hc _ hK1 hR1 hn hq
  have hK := hK1.trans hK0
  have hR := hR1.trans hR0
  have hN : ∀ i, Nat.blt i 3 = true → i < gnL G := fun i h => hn ▸ Nat.blt_eq.mp h
  unfold f_X7_isHome
  show WW G 0 [(0, .ref 0), (1, .long a1)] [] I L _
  refine w_lload_n (q := 1) (i := 1) (j := 1) hc dX7_isHome_0 rfl rfl rfl ?_
  refine w_aload_n (q := 2) (i := 0) (j := 0) hc dX7_isHome_1 rfl rfl rfl ?_
  refine gf_X7_19 (q := 5) hc dX7_isHome_2 (k_0 hK) (r_0_1 hR) rfl ?_
  refine gf_X7_95 (q := 8) hc dX7_isHome_5 (k_6 hK) rfl ?_
  refine w_callS_Rl (q := 11) (st := [.long a1]) (args := [.int (I 6 0)]) hc (m_X6_identity hK hR) dX7_isHome_8 ml_X7_77 cf_X6_identity st_X6_identity rfl rfl (Nat.le_of_ble_eq_true rfl) ⟨Nat.le_of_ble_eq_true rfl, Nat.le_of_ble_eq_true rfl⟩ rfl (fun q_1 => ?_)
  refine w_lcmp (q := 12) hc dX7_isHome_11  rfl ?_
  refine w_ifne (q := 15) (tgt := 19) hc dX7_isHome_12 rfl rfl ?_ ?_
  · refine w_iconst (q := 16) hc dX7_isHome_15 ci_1 rfl ?_
    refine w_goto (tgt := 20) hc dX7_isHome_16 rfl ?_
    exact w_ireturn (v := b2i true) hc hq dX7_isHome_20 (nar_b2i true) rfl rfl
  · refine w_iconst (q := 20) hc dX7_isHome_19 ci_0 rfl ?_
    exact w_ireturn (v := b2i false) hc hq dX7_isHome_20 (nar_b2i false) rfl rfl
set_option maxRecDepth 100000 in
set_option maxHeartbeats 4000000 in
theorem m_X7_many {l : Launch} {K : KT} {R : MR} {rm : Nat} {a1 : Int32} {I : MI} {L : ML} (hK0 : K = lK rm) (hR0 : R = lR rm) : MFg l yX7_many cX7_many 2 (some .int) 2 45 [.ref 0, .int a1] K R I L anIW meW (f_X7_many a1 I L) := by
  refine mf_of (plainFor_of_name (by decide)) (Nat.le_of_ble_eq_true rfl) ?_
  intro G hc _ hK1 hR1 hn hq
  have hK := hK1.trans hK0
  have hR := hR1.trans hR0
  have hN : ∀ i, Nat.blt i 2 = true → i < gnL G := fun i h => hn ▸ Nat.blt_eq.mp h
  unfold f_X7_many
  show WW G 0 [(0, .ref 0), (1, .int a1)] [] I L _
  refine w_iload_n (q := 1) (i := 1) (j := 1) hc dX7_many_0 rfl rfl rfl ?_
  refine w_tsw4 hc dX7_many_1 rfl rfl rfl rfl rfl ?_ ?_ ?_ ?_ ?_
  · refine w_aload_n (q := 33) (i := 0) (j := 0) hc dX7_many_32 rfl rfl rfl ?_
    refine w_aload_n (q := 34) (i := 0) (j := 0) hc dX7_many_33 rfl rfl rfl ?_
    refine gf_X7_19 (q := 37) hc dX7_many_34 (k_0 hK) (r_0_1 hR) rfl ?_
    refine gf_X7_95 (q := 40) hc dX7_many_37 (k_6 hK) rfl ?_
    refine w_callV_Wi (q := 43) (st := []) (args := [.int (I 6 0)]) (p := 0) hc (m_X7_tell hK hR) dX7_many_40 ml_X7_86 cf_X7_tell iv_X7_tell (k_0 hK) (C := RX7) (T := TX7) (N := 7) rfl rfl (Nat.lt_of_succ_le (Nat.le_of_ble_eq_true rfl)) rfl rfl (Nat.le_of_ble_eq_true rfl) ⟨Nat.le_of_ble_eq_true rfl, Nat.le_of_ble_eq_true rfl⟩ rfl (fun q_1 => ?_)
    exact w_ireturn (v := q_1.1) hc hq dX7_many_43 rfl rfl rfl
  · refine w_aload_n (q := 45) (i := 0) (j := 0) hc dX7_many_44 rfl rfl rfl ?_
    refine w_aload_n (q := 46) (i := 0) (j := 0) hc dX7_many_45 rfl rfl rfl ?_
    refine gf_X7_19 (q := 49) hc dX7_many_46 (k_0 hK) (r_0_1 hR) rfl ?_
    refine gf_X7_96 (q := 52) hc dX7_many_49 (k_6 hK) rfl ?_
    refine w_callV_Wi (q := 55) (st := []) (args := [.int (I 6 1)]) (p := 0) hc (m_X7_tell hK hR) dX7_many_52 ml_X7_86 cf_X7_tell iv_X7_tell (k_0 hK) (C := RX7) (T := TX7) (N := 7) rfl rfl (Nat.lt_of_succ_le (Nat.le_of_ble_eq_true rfl)) rfl rfl (Nat.le_of_ble_eq_true rfl) ⟨Nat.le_of_ble_eq_true rfl, Nat.le_of_ble_eq_true rfl⟩ rfl (fun q_2 => ?_)
    exact w_ireturn (v := q_2.1) hc hq dX7_many_55 rfl rfl rfl
  · refine w_aload_n (q := 57) (i := 0) (j := 0) hc dX7_many_56 rfl rfl rfl ?_
    refine w_aload_n (q := 58) (i := 0) (j := 0) hc dX7_many_57 rfl rfl rfl ?_
    refine gf_X7_26 (q := 61) hc dX7_many_58 (k_0 hK) (r_0_2 hR) rfl ?_
    refine gf_X7_97 (q := 64) hc dX7_many_61 (k_37 hK) rfl ?_
    refine w_callV_Wi (q := 67) (st := []) (args := [.int (I 37 0)]) (p := 0) hc (m_X7_tell hK hR) dX7_many_64 ml_X7_86 cf_X7_tell iv_X7_tell (k_0 hK) (C := RX7) (T := TX7) (N := 7) rfl rfl (Nat.lt_of_succ_le (Nat.le_of_ble_eq_true rfl)) rfl rfl (Nat.le_of_ble_eq_true rfl) ⟨Nat.le_of_ble_eq_true rfl, Nat.le_of_ble_eq_true rfl⟩ rfl (fun q_3 => ?_)
    exact w_ireturn (v := q_3.1) hc hq dX7_many_67 rfl rfl rfl
  · refine w_aload_n (q := 69) (i := 0) (j := 0) hc dX7_many_68 rfl rfl rfl ?_
    refine w_aload_n (q := 70) (i := 0) (j := 0) hc dX7_many_69 rfl rfl rfl ?_
    refine w_aload_n (q := 71) (i := 0) (j := 0) hc dX7_many_70 rfl rfl rfl ?_
    refine gf_X7_38 (q := 74) hc dX7_many_71 (k_0 hK) rfl ?_
    refine w_callV_Rz (q := 77) (st := [.ref 0]) (args := [.long (L 0 5)]) (p := 0) hc (m_X7_isHome hK hR) dX7_many_74 ml_X7_100 cf_X7_isHome iv_X7_isHome (k_0 hK) (C := RX7) (T := TX7) (N := 7) rfl rfl (Nat.lt_of_succ_le (Nat.le_of_ble_eq_true rfl)) rfl rfl (Nat.le_of_ble_eq_true rfl) ⟨Nat.le_of_ble_eq_true rfl, Nat.le_of_ble_eq_true rfl⟩ rfl (fun q_4 => ?_)
    refine w_ifeq (q := 80) (tgt := 84) hc dX7_many_77 rfl rfl ?_ ?_
    · refine w_iconst (q := 85) hc dX7_many_84 ci_0 rfl ?_
      refine w_callV_Wi (q := 88) (st := []) (args := [.int 0]) (p := 0) hc (m_X7_tell hK hR) dX7_many_85 ml_X7_86 cf_X7_tell iv_X7_tell (k_0 hK) (C := RX7) (T := TX7) (N := 7) rfl rfl (Nat.lt_of_succ_le (Nat.le_of_ble_eq_true rfl)) rfl rfl (Nat.le_of_ble_eq_true rfl) ⟨Nat.le_of_ble_eq_true rfl, Nat.le_of_ble_eq_true rfl⟩ rfl (fun q_5 => ?_)
      exact w_ireturn (v := q_5.1) hc hq dX7_many_88 rfl rfl rfl
    · refine w_iconst (q := 81) hc dX7_many_80 ci_1 rfl ?_
      refine w_goto (tgt := 85) hc dX7_many_81 rfl ?_
      refine w_callV_Wi (q := 88) (st := []) (args := [.int 1]) (p := 0) hc (m_X7_tell hK hR) dX7_many_85 ml_X7_86 cf_X7_tell iv_X7_tell (k_0 hK) (C := RX7) (T := TX7) (N := 7) rfl rfl (Nat.lt_of_succ_le (Nat.le_of_ble_eq_true rfl)) rfl rfl (Nat.le_of_ble_eq_true rfl) ⟨Nat.le_of_ble_eq_true rfl, Nat.le_of_ble_eq_true rfl⟩ rfl (fun q_6 => ?_)
      exact w_ireturn (v := q_6.1) hc hq dX7_many_88 rfl rfl rfl
  · refine w_aload_n (q := 90) (i := 0) (j := 0) hc dX7_many_89 rfl rfl rfl ?_
    refine w_iconst (q := 91) hc dX7_many_90 ci_1 rfl ?_
    refine w_callV_Wi (q := 94) (st := []) (args := [.int 1]) (p := 0) hc (m_X7_refuse hK hR) dX7_many_91 ml_X7_56 cf_X7_refuse iv_X7_refuse (k_0 hK) (C := RX7) (T := TX7) (N := 7) rfl rfl (Nat.lt_of_succ_le (Nat.le_of_ble_eq_true rfl)) rfl rfl (Nat.le_of_ble_eq_true rfl) ⟨Nat.le_of_ble_eq_true rfl, Nat.le_of_ble_eq_true rfl⟩ rfl (fun q_7 => ?_)
    exact w_ireturn (v := q_7.1) hc hq dX7_many_94 rfl rfl rfl
set_option maxRecDepth 100000 in
set_option maxHeartbeats 4000000 in
theorem m_X7_tellTurn {l : Launch} {K : KT} {R : MR} {rm : Nat} {a1 : Int64} {I : MI} {L : ML} (hK0 : K = lK rm) (hR0 : R = lR rm) : MFg l yX7_tellTurn cX7_tellTurn 3 (some .long) 2 47 [.ref 0, .long a1] K R I L anLW meW (f_X7_tellTurn a1 I L) := by
  refine mf_of (plainFor_of_name (by decide)) (Nat.le_of_ble_eq_true rfl) ?_
  intro G hc _ hK1 hR1 hn hq
  have hK := hK1.trans hK0
  have hR := hR1.trans hR0
  have hN : ∀ i, Nat.blt i 3 = true → i < gnL G := fun i h => hn ▸ Nat.blt_eq.mp h
  unfold f_X7_tellTurn
  show WW G 0 [(0, .ref 0), (1, .long a1)] [] I L _
  refine w_aload_n (q := 1) (i := 0) (j := 0) hc dX7_tellTurn_0 rfl rfl rfl ?_
  refine w_iconst (q := 2) hc dX7_tellTurn_1 ci_0 rfl ?_
  refine pf_X7_42 (q := 5) hc dX7_tellTurn_2 (k_0 hK) rfl (fun I_1 => ?_)
  refine w_lload_n (q := 6) (i := 1) (j := 1) hc dX7_tellTurn_5 rfl rfl rfl ?_
  refine w_aload_n (q := 7) (i := 0) (j := 0) hc dX7_tellTurn_6 rfl rfl rfl ?_
  refine gf_X7_19 (q := 10) hc dX7_tellTurn_7 (k_0 hK) (r_0_1 hR) rfl ?_
  refine gf_X7_95 (q := 13) hc dX7_tellTurn_10 (k_6 hK) rfl ?_
  refine w_callS_Rl (q := 16) (st := []) (args := [.long a1, .int (I_1 6 0)]) hc (m_X6_toNumber hK hR) dX7_tellTurn_13 ml_X7_363 cf_X6_toNumber st_X6_toNumber rfl rfl (Nat.le_of_ble_eq_true rfl) ⟨Nat.le_of_ble_eq_true rfl, Nat.le_of_ble_eq_true rfl⟩ rfl (fun q_2 => ?_)
  exact w_lreturn hc hq dX7_tellTurn_16 rfl rfl
set_option maxRecDepth 100000 in
set_option maxHeartbeats 4000000 in
theorem m_X7_step {l : Launch} {K : KT} {R : MR} {rm : Nat} {a1 : Int32} {I : MI} {L : ML} (hK0 : K = lK rm) (hR0 : R = lR rm) : MFg l yX7_step cX7_step 2 (some .long) 3 69 [.ref 0, .int a1] K R I L anLW meW (f_X7_step a1 I L) := by
  refine mf_of (plainFor_of_name (by decide)) (Nat.le_of_ble_eq_true rfl) ?_
  intro G hc _ hK1 hR1 hn hq
  have hK := hK1.trans hK0
  have hR := hR1.trans hR0
  have hN : ∀ i, Nat.blt i 2 = true → i < gnL G := fun i h => hn ▸ Nat.blt_eq.mp h
  unfold f_X7_step
  show WW G 0 [(0, .ref 0), (1, .int a1)] [] I L _
  refine w_aload_n (q := 1) (i := 0) (j := 0) hc dX7_step_0 rfl rfl rfl ?_
  refine gf_X7_19 (q := 4) hc dX7_step_1 (k_0 hK) (r_0_1 hR) rfl ?_
  refine w_iload_n (q := 5) (i := 1) (j := 1) hc dX7_step_4 rfl rfl rfl ?_
  refine w_callV_Rz (q := 8) (st := []) (args := [.int a1]) (p := 6) hc (m_X2_hasStep hK hR) dX7_step_5 ml_X7_104 cf_X2_hasStep iv_X2_hasStep (k_6 hK) (C := RX2) (T := TX2) (N := 13) rfl rfl (Nat.lt_of_succ_le (Nat.le_of_ble_eq_true rfl)) rfl rfl (Nat.le_of_ble_eq_true rfl) ⟨Nat.le_of_ble_eq_true rfl, Nat.le_of_ble_eq_true rfl⟩ rfl (fun q_1 => ?_)
  refine w_ifne (q := 11) (tgt := 18) hc dX7_step_8 rfl rfl ?_ ?_
  · refine w_aload_n (q := 12) (i := 0) (j := 0) hc dX7_step_11 rfl rfl rfl ?_
    refine w_iconst (q := 13) hc dX7_step_12 ci_2 rfl ?_
    refine w_callV_Wi (q := 16) (st := []) (args := [.int 2]) (p := 0) hc (m_X7_refuse hK hR) dX7_step_13 ml_X7_56 cf_X7_refuse iv_X7_refuse (k_0 hK) (C := RX7) (T := TX7) (N := 7) rfl rfl (Nat.lt_of_succ_le (Nat.le_of_ble_eq_true rfl)) rfl rfl (Nat.le_of_ble_eq_true rfl) ⟨Nat.le_of_ble_eq_true rfl, Nat.le_of_ble_eq_true rfl⟩ rfl (fun q_4 => ?_)
    refine w_i2l (q := 17) hc dX7_step_16  rfl ?_
    exact w_lreturn hc hq dX7_step_17 rfl rfl
  · refine w_aload_n (q := 19) (i := 0) (j := 0) hc dX7_step_18 rfl rfl rfl ?_
    refine w_aload_n (q := 20) (i := 0) (j := 0) hc dX7_step_19 rfl rfl rfl ?_
    refine gf_X7_19 (q := 23) hc dX7_step_20 (k_0 hK) (r_0_1 hR) rfl ?_
    refine w_iload_n (q := 24) (i := 1) (j := 1) hc dX7_step_23 rfl rfl rfl ?_
    refine w_callV_Rl (q := 27) (st := [.ref 0]) (args := [.int a1]) (p := 6) hc (m_X2_turnOf hK hR) dX7_step_24 ml_X7_107 cf_X2_turnOf iv_X2_turnOf (k_6 hK) (C := RX2) (T := TX2) (N := 13) rfl rfl (Nat.lt_of_succ_le (Nat.le_of_ble_eq_true rfl)) rfl rfl (Nat.le_of_ble_eq_true rfl) ⟨Nat.le_of_ble_eq_true rfl, Nat.le_of_ble_eq_true rfl⟩ rfl (fun q_2 => ?_)
    refine w_callV_Wl (q := 30) (st := []) (args := [.long q_2]) (p := 0) hc (m_X7_tellTurn hK hR) dX7_step_27 ml_X7_110 cf_X7_tellTurn iv_X7_tellTurn (k_0 hK) (C := RX7) (T := TX7) (N := 7) rfl rfl (Nat.lt_of_succ_le (Nat.le_of_ble_eq_true rfl)) rfl rfl (Nat.le_of_ble_eq_true rfl) ⟨Nat.le_of_ble_eq_true rfl, Nat.le_of_ble_eq_true rfl⟩ rfl (fun q_3 => ?_)
    exact w_lreturn hc hq dX7_step_30 rfl rfl
set_option maxRecDepth 100000 in
set_option maxHeartbeats 4000000 in
theorem m_X7_stand {l : Launch} {K : KT} {R : MR} {rm : Nat} {I : MI} {L : ML} (hK0 : K = lK rm) (hR0 : R = lR rm) : MFg l yX7_stand cX7_stand 1 (some .long) 3 69 [.ref 0] K R I L anLW meW (f_X7_stand I L) := by
  refine mf_of (plainFor_of_name (by decide)) (Nat.le_of_ble_eq_true rfl) ?_
  intro G hc _ hK1 hR1 hn hq
  have hK := hK1.trans hK0
  have hR := hR1.trans hR0
  have hN : ∀ i, Nat.blt i 1 = true → i < gnL G := fun i h => hn ▸ Nat.blt_eq.mp h
  unfold f_X7_stand
  show WW G 0 [(0, .ref 0)] [] I L _
  refine w_aload_n (q := 1) (i := 0) (j := 0) hc dX7_stand_0 rfl rfl rfl ?_
  refine gf_X7_19 (q := 4) hc dX7_stand_1 (k_0 hK) (r_0_1 hR) rfl ?_
  refine gf_X7_95 (q := 7) hc dX7_stand_4 (k_6 hK) rfl ?_
  refine w_ifne (q := 10) (tgt := 17) hc dX7_stand_7 rfl rfl ?_ ?_
  · refine w_aload_n (q := 11) (i := 0) (j := 0) hc dX7_stand_10 rfl rfl rfl ?_
    refine w_iconst (q := 12) hc dX7_stand_11 ci_5 rfl ?_
    refine w_callV_Wi (q := 15) (st := []) (args := [.int 5]) (p := 0) hc (m_X7_refuse hK hR) dX7_stand_12 ml_X7_56 cf_X7_refuse iv_X7_refuse (k_0 hK) (C := RX7) (T := TX7) (N := 7) rfl rfl (Nat.lt_of_succ_le (Nat.le_of_ble_eq_true rfl)) rfl rfl (Nat.le_of_ble_eq_true rfl) ⟨Nat.le_of_ble_eq_true rfl, Nat.le_of_ble_eq_true rfl⟩ rfl (fun q_2 => ?_)
    refine w_i2l (q := 16) hc dX7_stand_15  rfl ?_
    exact w_lreturn hc hq dX7_stand_16 rfl rfl
  · refine w_aload_n (q := 18) (i := 0) (j := 0) hc dX7_stand_17 rfl rfl rfl ?_
    refine w_aload_n (q := 19) (i := 0) (j := 0) hc dX7_stand_18 rfl rfl rfl ?_
    refine gf_X7_38 (q := 22) hc dX7_stand_19 (k_0 hK) rfl ?_
    refine w_callV_Wl (q := 25) (st := []) (args := [.long (L 0 5)]) (p := 0) hc (m_X7_tellTurn hK hR) dX7_stand_22 ml_X7_110 cf_X7_tellTurn iv_X7_tellTurn (k_0 hK) (C := RX7) (T := TX7) (N := 7) rfl rfl (Nat.lt_of_succ_le (Nat.le_of_ble_eq_true rfl)) rfl rfl (Nat.le_of_ble_eq_true rfl) ⟨Nat.le_of_ble_eq_true rfl, Nat.le_of_ble_eq_true rfl⟩ rfl (fun q_1 => ?_)
    exact w_lreturn hc hq dX7_stand_25 rfl rfl
set_option maxRecDepth 100000 in
set_option maxHeartbeats 4000000 in
theorem m_X7_read {l : Launch} {K : KT} {R : MR} {rm : Nat} {a1 : Int64} {I : MI} {L : ML} (hK0 : K = lK rm) (hR0 : R = lR rm) : MFg l yX7_read cX7_read 3 (some .long) 1 29 [.ref 0, .long a1] K R I L anL (meR I L) (f_X7_read a1 I L) := by
  refine mf_of (plainFor_of_name (by decide)) (Nat.le_of_ble_eq_true rfl) ?_
  intro G hc _ hK1 hR1 hn hq
  have hK := hK1.trans hK0
  have hR := hR1.trans hR0
  have hN : ∀ i, Nat.blt i 3 = true → i < gnL G := fun i h => hn ▸ Nat.blt_eq.mp h
  unfold f_X7_read
  show WW G 0 [(0, .ref 0), (1, .long a1)] [] I L _
  refine w_lload_n (q := 1) (i := 1) (j := 1) hc dX7_read_0 rfl rfl rfl ?_
  refine w_aload_n (q := 2) (i := 0) (j := 0) hc dX7_read_1 rfl rfl rfl ?_
  refine gf_X7_19 (q := 5) hc dX7_read_2 (k_0 hK) (r_0_1 hR) rfl ?_
  refine gf_X7_95 (q := 8) hc dX7_read_5 (k_6 hK) rfl ?_
  refine w_callS_Rl (q := 11) (st := []) (args := [.long a1, .int (I 6 0)]) hc (m_X6_fromNumber hK hR) dX7_read_8 ml_X7_366 cf_X6_fromNumber st_X6_fromNumber rfl rfl (Nat.le_of_ble_eq_true rfl) ⟨Nat.le_of_ble_eq_true rfl, Nat.le_of_ble_eq_true rfl⟩ rfl (fun q_1 => ?_)
  exact w_lreturn hc hq dX7_read_11 rfl rfl
set_option maxRecDepth 100000 in
set_option maxHeartbeats 4000000 in
theorem m_X7_takes {l : Launch} {K : KT} {R : MR} {rm : Nat} {a1 : Int64} {a3 : Int32} {I : MI} {L : ML} (hK0 : K = lK rm) (hR0 : R = lR rm) : MFg l yX7_takes cX7_takes 6 (some .int) 2 51 [.ref 0, .long a1, .int a3] K R I L anIW meW (f_X7_takes a1 a3 I L) := by
  refine mf_of (plainFor_of_name (by decide)) (Nat.le_of_ble_eq_true rfl) ?_
  intro G hc _ hK1 hR1 hn hq
  have hK := hK1.trans hK0
  have hR := hR1.trans hR0
  have hN : ∀ i, Nat.blt i 6 = true → i < gnL G := fun i h => hn ▸ Nat.blt_eq.mp h
  unfold f_X7_takes
  show WW G 0 [(0, .ref 0), (1, .long a1), (3, .int a3)] [] I L _
  refine w_aload_n (q := 1) (i := 0) (j := 0) hc dX7_takes_0 rfl rfl rfl ?_
  refine w_lload_n (q := 2) (i := 1) (j := 1) hc dX7_takes_1 rfl rfl rfl ?_
  refine w_callV_Rl (q := 5) (st := []) (args := [.long a1]) (p := 0) hc (m_X7_read hK hR) dX7_takes_2 ml_X7_114 cf_X7_read iv_X7_read (k_0 hK) (C := RX7) (T := TX7) (N := 7) rfl rfl (Nat.lt_of_succ_le (Nat.le_of_ble_eq_true rfl)) rfl rfl (Nat.le_of_ble_eq_true rfl) ⟨Nat.le_of_ble_eq_true rfl, Nat.le_of_ble_eq_true rfl⟩ rfl (fun q_1 => ?_)
  refine w_lstore (q := 7) (i := 4) (lv' := [(4, .long q_1), (0, .ref 0), (1, .long a1), (3, .int a3)]) hc dX7_takes_5 (hN 5 rfl) rfl rfl ?_
  refine w_lload (q := 9) (i := 4) (j := 0) hc dX7_takes_7 rfl rfl ?_
  refine w_lconst (q := 10) hc dX7_takes_9 cl_0 rfl ?_
  refine w_lcmp (q := 11) hc dX7_takes_10  rfl ?_
  refine w_ifge (q := 14) (tgt := 20) hc dX7_takes_11 rfl rfl ?_ ?_
  · refine w_aload_n (q := 21) (i := 0) (j := 1) hc dX7_takes_20 rfl rfl rfl ?_
    refine gf_X7_19 (q := 24) hc dX7_takes_21 (k_0 hK) (r_0_1 hR) rfl ?_
    refine w_iload_n (q := 25) (i := 3) (j := 3) hc dX7_takes_24 rfl rfl rfl ?_
    refine w_callV_Rz (q := 28) (st := []) (args := [.int a3]) (p := 6) hc (m_X2_hasPoint hK hR) dX7_takes_25 ml_X7_117 cf_X2_hasPoint iv_X2_hasPoint (k_6 hK) (C := RX2) (T := TX2) (N := 13) rfl rfl (Nat.lt_of_succ_le (Nat.le_of_ble_eq_true rfl)) rfl rfl (Nat.le_of_ble_eq_true rfl) ⟨Nat.le_of_ble_eq_true rfl, Nat.le_of_ble_eq_true rfl⟩ rfl (fun q_2 => ?_)
    refine w_ifne (q := 31) (tgt := 37) hc dX7_takes_28 rfl rfl ?_ ?_
    · refine w_aload_n (q := 32) (i := 0) (j := 1) hc dX7_takes_31 rfl rfl rfl ?_
      refine w_iconst (q := 33) hc dX7_takes_32 ci_2 rfl ?_
      refine w_callV_Wi (q := 36) (st := []) (args := [.int 2]) (p := 0) hc (m_X7_refuse hK hR) dX7_takes_33 ml_X7_56 cf_X7_refuse iv_X7_refuse (k_0 hK) (C := RX7) (T := TX7) (N := 7) rfl rfl (Nat.lt_of_succ_le (Nat.le_of_ble_eq_true rfl)) rfl rfl (Nat.le_of_ble_eq_true rfl) ⟨Nat.le_of_ble_eq_true rfl, Nat.le_of_ble_eq_true rfl⟩ rfl (fun q_5 => ?_)
      exact w_ireturn (v := q_5.1) hc hq dX7_takes_36 rfl rfl rfl
    · refine w_aload_n (q := 38) (i := 0) (j := 1) hc dX7_takes_37 rfl rfl rfl ?_
      refine w_lload (q := 40) (i := 4) (j := 0) hc dX7_takes_38 rfl rfl ?_
      refine w_iload_n (q := 41) (i := 3) (j := 3) hc dX7_takes_40 rfl rfl rfl ?_
      refine w_callS_Ri (q := 44) (st := [.ref 0]) (args := [.long q_1, .int a3]) hc (m_X6_image hK hR) dX7_takes_41 ml_X7_120 cf_X6_image st_X6_image rfl rfl (Nat.le_of_ble_eq_true rfl) ⟨Nat.le_of_ble_eq_true rfl, Nat.le_of_ble_eq_true rfl⟩ rfl (fun q_3 => ?_)
      refine w_callV_Wi (q := 47) (st := []) (args := [.int q_3]) (p := 0) hc (m_X7_tell hK hR) dX7_takes_44 ml_X7_86 cf_X7_tell iv_X7_tell (k_0 hK) (C := RX7) (T := TX7) (N := 7) rfl rfl (Nat.lt_of_succ_le (Nat.le_of_ble_eq_true rfl)) rfl rfl (Nat.le_of_ble_eq_true rfl) ⟨Nat.le_of_ble_eq_true rfl, Nat.le_of_ble_eq_true rfl⟩ rfl (fun q_4 => ?_)
      exact w_ireturn (v := q_4.1) hc hq dX7_takes_47 rfl rfl rfl
  · refine w_aload_n (q := 15) (i := 0) (j := 1) hc dX7_takes_14 rfl rfl rfl ?_
    refine w_iconst (q := 16) hc dX7_takes_15 ci_1 rfl ?_
    refine w_callV_Wi (q := 19) (st := []) (args := [.int 1]) (p := 0) hc (m_X7_refuse hK hR) dX7_takes_16 ml_X7_56 cf_X7_refuse iv_X7_refuse (k_0 hK) (C := RX7) (T := TX7) (N := 7) rfl rfl (Nat.lt_of_succ_le (Nat.le_of_ble_eq_true rfl)) rfl rfl (Nat.le_of_ble_eq_true rfl) ⟨Nat.le_of_ble_eq_true rfl, Nat.le_of_ble_eq_true rfl⟩ rfl (fun q_6 => ?_)
    exact w_ireturn (v := q_6.1) hc hq dX7_takes_19 rfl rfl rfl
set_option maxRecDepth 100000 in
set_option maxHeartbeats 4000000 in
theorem m_X7_product {l : Launch} {K : KT} {R : MR} {rm : Nat} {a1 : Int64} {a3 : Int64} {I : MI} {L : ML} (hK0 : K = lK rm) (hR0 : R = lR rm) : MFg l yX7_product cX7_product 9 (some .long) 3 69 [.ref 0, .long a1, .long a3] K R I L anLW meW (f_X7_product a1 a3 I L) := by
  refine mf_of (plainFor_of_name (by decide)) (Nat.le_of_ble_eq_true rfl) ?_
  intro G hc _ hK1 hR1 hn hq
  have hK := hK1.trans hK0
  have hR := hR1.trans hR0
  have hN : ∀ i, Nat.blt i 9 = true → i < gnL G := fun i h => hn ▸ Nat.blt_eq.mp h
  unfold f_X7_product
  show WW G 0 [(0, .ref 0), (1, .long a1), (3, .long a3)] [] I L _
  refine w_aload_n (q := 1) (i := 0) (j := 0) hc dX7_product_0 rfl rfl rfl ?_
  refine w_lload_n (q := 2) (i := 1) (j := 1) hc dX7_product_1 rfl rfl rfl ?_
  refine w_callV_Rl (q := 5) (st := []) (args := [.long a1]) (p := 0) hc (m_X7_read hK hR) dX7_product_2 ml_X7_114 cf_X7_read iv_X7_read (k_0 hK) (C := RX7) (T := TX7) (N := 7) rfl rfl (Nat.lt_of_succ_le (Nat.le_of_ble_eq_true rfl)) rfl rfl (Nat.le_of_ble_eq_true rfl) ⟨Nat.le_of_ble_eq_true rfl, Nat.le_of_ble_eq_true rfl⟩ rfl (fun q_1 => ?_)
  refine w_lstore (q := 7) (i := 5) (lv' := [(5, .long q_1), (0, .ref 0), (1, .long a1), (3, .long a3)]) hc dX7_product_5 (hN 6 rfl) rfl rfl ?_
  refine w_aload_n (q := 8) (i := 0) (j := 1) hc dX7_product_7 rfl rfl rfl ?_
  refine w_lload_n (q := 9) (i := 3) (j := 3) hc dX7_product_8 rfl rfl rfl ?_
  refine w_callV_Rl (q := 12) (st := []) (args := [.long a3]) (p := 0) hc (m_X7_read hK hR) dX7_product_9 ml_X7_114 cf_X7_read iv_X7_read (k_0 hK) (C := RX7) (T := TX7) (N := 7) rfl rfl (Nat.lt_of_succ_le (Nat.le_of_ble_eq_true rfl)) rfl rfl (Nat.le_of_ble_eq_true rfl) ⟨Nat.le_of_ble_eq_true rfl, Nat.le_of_ble_eq_true rfl⟩ rfl (fun q_2 => ?_)
  refine w_lstore (q := 14) (i := 7) (lv' := [(7, .long q_2), (5, .long q_1), (0, .ref 0), (1, .long a1), (3, .long a3)]) hc dX7_product_12 (hN 8 rfl) rfl rfl ?_
  refine w_lload (q := 16) (i := 5) (j := 1) hc dX7_product_14 rfl rfl ?_
  refine w_lconst (q := 17) hc dX7_product_16 cl_0 rfl ?_
  refine w_lcmp (q := 18) hc dX7_product_17  rfl ?_
  refine w_iflt (q := 21) (tgt := 28) hc dX7_product_18 rfl rfl ?_ ?_
  · refine w_aload_n (q := 29) (i := 0) (j := 2) hc dX7_product_28 rfl rfl rfl ?_
    refine w_iconst (q := 30) hc dX7_product_29 ci_1 rfl ?_
    refine w_callV_Wi (q := 33) (st := []) (args := [.int 1]) (p := 0) hc (m_X7_refuse hK hR) dX7_product_30 ml_X7_56 cf_X7_refuse iv_X7_refuse (k_0 hK) (C := RX7) (T := TX7) (N := 7) rfl rfl (Nat.lt_of_succ_le (Nat.le_of_ble_eq_true rfl)) rfl rfl (Nat.le_of_ble_eq_true rfl) ⟨Nat.le_of_ble_eq_true rfl, Nat.le_of_ble_eq_true rfl⟩ rfl (fun q_3 => ?_)
    refine w_i2l (q := 34) hc dX7_product_33  rfl ?_
    exact w_lreturn hc hq dX7_product_34 rfl rfl
  · refine w_lload (q := 23) (i := 7) (j := 0) hc dX7_product_21 rfl rfl ?_
    refine w_lconst (q := 24) hc dX7_product_23 cl_0 rfl ?_
    refine w_lcmp (q := 25) hc dX7_product_24  rfl ?_
    refine w_ifge (q := 28) (tgt := 35) hc dX7_product_25 rfl rfl ?_ ?_
    · refine w_aload_n (q := 36) (i := 0) (j := 2) hc dX7_product_35 rfl rfl rfl ?_
      refine w_lload (q := 38) (i := 5) (j := 1) hc dX7_product_36 rfl rfl ?_
      refine w_lload (q := 40) (i := 7) (j := 0) hc dX7_product_38 rfl rfl ?_
      refine w_aload_n (q := 41) (i := 0) (j := 2) hc dX7_product_40 rfl rfl rfl ?_
      refine gf_X7_19 (q := 44) hc dX7_product_41 (k_0 hK) (r_0_1 hR) rfl ?_
      refine gf_X7_95 (q := 47) hc dX7_product_44 (k_6 hK) rfl ?_
      refine w_callS_Rl (q := 50) (st := [.ref 0]) (args := [.long q_1, .long q_2, .int (I 6 0)]) hc (m_X6_compose hK hR) dX7_product_47 ml_X7_124 cf_X6_compose st_X6_compose rfl rfl (Nat.le_of_ble_eq_true rfl) ⟨Nat.le_of_ble_eq_true rfl, Nat.le_of_ble_eq_true rfl⟩ rfl (fun q_4 => ?_)
      refine w_callV_Wl (q := 53) (st := []) (args := [.long q_4]) (p := 0) hc (m_X7_tellTurn hK hR) dX7_product_50 ml_X7_110 cf_X7_tellTurn iv_X7_tellTurn (k_0 hK) (C := RX7) (T := TX7) (N := 7) rfl rfl (Nat.lt_of_succ_le (Nat.le_of_ble_eq_true rfl)) rfl rfl (Nat.le_of_ble_eq_true rfl) ⟨Nat.le_of_ble_eq_true rfl, Nat.le_of_ble_eq_true rfl⟩ rfl (fun q_5 => ?_)
      exact w_lreturn hc hq dX7_product_53 rfl rfl
    · refine w_aload_n (q := 29) (i := 0) (j := 2) hc dX7_product_28 rfl rfl rfl ?_
      refine w_iconst (q := 30) hc dX7_product_29 ci_1 rfl ?_
      refine w_callV_Wi (q := 33) (st := []) (args := [.int 1]) (p := 0) hc (m_X7_refuse hK hR) dX7_product_30 ml_X7_56 cf_X7_refuse iv_X7_refuse (k_0 hK) (C := RX7) (T := TX7) (N := 7) rfl rfl (Nat.lt_of_succ_le (Nat.le_of_ble_eq_true rfl)) rfl rfl (Nat.le_of_ble_eq_true rfl) ⟨Nat.le_of_ble_eq_true rfl, Nat.le_of_ble_eq_true rfl⟩ rfl (fun q_6 => ?_)
      refine w_i2l (q := 34) hc dX7_product_33  rfl ?_
      exact w_lreturn hc hq dX7_product_34 rfl rfl
set_option maxRecDepth 100000 in
set_option maxHeartbeats 4000000 in
theorem m_X7_inverse {l : Launch} {K : KT} {R : MR} {rm : Nat} {a1 : Int64} {I : MI} {L : ML} (hK0 : K = lK rm) (hR0 : R = lR rm) : MFg l yX7_inverse cX7_inverse 5 (some .long) 3 69 [.ref 0, .long a1] K R I L anLW meW (f_X7_inverse a1 I L) := by
  refine mf_of (plainFor_of_name (by decide)) (Nat.le_of_ble_eq_true rfl) ?_
  intro G hc _ hK1 hR1 hn hq
  have hK := hK1.trans hK0
  have hR := hR1.trans hR0
  have hN : ∀ i, Nat.blt i 5 = true → i < gnL G := fun i h => hn ▸ Nat.blt_eq.mp h
  unfold f_X7_inverse
  show WW G 0 [(0, .ref 0), (1, .long a1)] [] I L _
  refine w_aload_n (q := 1) (i := 0) (j := 0) hc dX7_inverse_0 rfl rfl rfl ?_
  refine w_lload_n (q := 2) (i := 1) (j := 1) hc dX7_inverse_1 rfl rfl rfl ?_
  refine w_callV_Rl (q := 5) (st := []) (args := [.long a1]) (p := 0) hc (m_X7_read hK hR) dX7_inverse_2 ml_X7_114 cf_X7_read iv_X7_read (k_0 hK) (C := RX7) (T := TX7) (N := 7) rfl rfl (Nat.lt_of_succ_le (Nat.le_of_ble_eq_true rfl)) rfl rfl (Nat.le_of_ble_eq_true rfl) ⟨Nat.le_of_ble_eq_true rfl, Nat.le_of_ble_eq_true rfl⟩ rfl (fun q_1 => ?_)
  refine w_lstore_n (q := 6) (i := 3) (lv' := [(3, .long q_1), (0, .ref 0), (1, .long a1)]) hc dX7_inverse_5 rfl (hN 4 rfl) rfl rfl ?_
  refine w_lload_n (q := 7) (i := 3) (j := 0) hc dX7_inverse_6 rfl rfl rfl ?_
  refine w_lconst (q := 8) hc dX7_inverse_7 cl_0 rfl ?_
  refine w_lcmp (q := 9) hc dX7_inverse_8  rfl ?_
  refine w_ifge (q := 12) (tgt := 19) hc dX7_inverse_9 rfl rfl ?_ ?_
  · refine w_aload_n (q := 20) (i := 0) (j := 1) hc dX7_inverse_19 rfl rfl rfl ?_
    refine w_lload_n (q := 21) (i := 3) (j := 0) hc dX7_inverse_20 rfl rfl rfl ?_
    refine w_aload_n (q := 22) (i := 0) (j := 1) hc dX7_inverse_21 rfl rfl rfl ?_
    refine gf_X7_19 (q := 25) hc dX7_inverse_22 (k_0 hK) (r_0_1 hR) rfl ?_
    refine gf_X7_95 (q := 28) hc dX7_inverse_25 (k_6 hK) rfl ?_
    refine w_callS_Rl (q := 31) (st := [.ref 0]) (args := [.long q_1, .int (I 6 0)]) hc (m_X6_invert hK hR) dX7_inverse_28 ml_X7_128 cf_X6_invert st_X6_invert rfl rfl (Nat.le_of_ble_eq_true rfl) ⟨Nat.le_of_ble_eq_true rfl, Nat.le_of_ble_eq_true rfl⟩ rfl (fun q_2 => ?_)
    refine w_callV_Wl (q := 34) (st := []) (args := [.long q_2]) (p := 0) hc (m_X7_tellTurn hK hR) dX7_inverse_31 ml_X7_110 cf_X7_tellTurn iv_X7_tellTurn (k_0 hK) (C := RX7) (T := TX7) (N := 7) rfl rfl (Nat.lt_of_succ_le (Nat.le_of_ble_eq_true rfl)) rfl rfl (Nat.le_of_ble_eq_true rfl) ⟨Nat.le_of_ble_eq_true rfl, Nat.le_of_ble_eq_true rfl⟩ rfl (fun q_3 => ?_)
    exact w_lreturn hc hq dX7_inverse_34 rfl rfl
  · refine w_aload_n (q := 13) (i := 0) (j := 1) hc dX7_inverse_12 rfl rfl rfl ?_
    refine w_iconst (q := 14) hc dX7_inverse_13 ci_1 rfl ?_
    refine w_callV_Wi (q := 17) (st := []) (args := [.int 1]) (p := 0) hc (m_X7_refuse hK hR) dX7_inverse_14 ml_X7_56 cf_X7_refuse iv_X7_refuse (k_0 hK) (C := RX7) (T := TX7) (N := 7) rfl rfl (Nat.lt_of_succ_le (Nat.le_of_ble_eq_true rfl)) rfl rfl (Nat.le_of_ble_eq_true rfl) ⟨Nat.le_of_ble_eq_true rfl, Nat.le_of_ble_eq_true rfl⟩ rfl (fun q_4 => ?_)
    refine w_i2l (q := 18) hc dX7_inverse_17  rfl ?_
    exact w_lreturn hc hq dX7_inverse_18 rfl rfl
set_option maxRecDepth 100000 in
set_option maxHeartbeats 4000000 in
theorem m_X7_power {l : Launch} {K : KT} {R : MR} {rm : Nat} {a1 : Int64} {a3 : Int32} {I : MI} {L : ML} (hK0 : K = lK rm) (hR0 : R = lR rm) : MFg l yX7_power cX7_power 6 (some .long) 3 75 [.ref 0, .long a1, .int a3] K R I L anLW meW (f_X7_power a1 a3 I L) := by
  refine mf_of (plainFor_of_name (by decide)) (Nat.le_of_ble_eq_true rfl) ?_
  intro G hc _ hK1 hR1 hn hq
  have hK := hK1.trans hK0
  have hR := hR1.trans hR0
  have hN : ∀ i, Nat.blt i 6 = true → i < gnL G := fun i h => hn ▸ Nat.blt_eq.mp h
  unfold f_X7_power
  show WW G 0 [(0, .ref 0), (1, .long a1), (3, .int a3)] [] I L _
  refine w_aload_n (q := 1) (i := 0) (j := 0) hc dX7_power_0 rfl rfl rfl ?_
  refine w_lload_n (q := 2) (i := 1) (j := 1) hc dX7_power_1 rfl rfl rfl ?_
  refine w_callV_Rl (q := 5) (st := []) (args := [.long a1]) (p := 0) hc (m_X7_read hK hR) dX7_power_2 ml_X7_114 cf_X7_read iv_X7_read (k_0 hK) (C := RX7) (T := TX7) (N := 7) rfl rfl (Nat.lt_of_succ_le (Nat.le_of_ble_eq_true rfl)) rfl rfl (Nat.le_of_ble_eq_true rfl) ⟨Nat.le_of_ble_eq_true rfl, Nat.le_of_ble_eq_true rfl⟩ rfl (fun q_1 => ?_)
  refine w_lstore (q := 7) (i := 4) (lv' := [(4, .long q_1), (0, .ref 0), (1, .long a1), (3, .int a3)]) hc dX7_power_5 (hN 5 rfl) rfl rfl ?_
  refine w_lload (q := 9) (i := 4) (j := 0) hc dX7_power_7 rfl rfl ?_
  refine w_lconst (q := 10) hc dX7_power_9 cl_0 rfl ?_
  refine w_lcmp (q := 11) hc dX7_power_10  rfl ?_
  refine w_iflt (q := 14) (tgt := 28) hc dX7_power_11 rfl rfl ?_ ?_
  · refine w_aload_n (q := 29) (i := 0) (j := 1) hc dX7_power_28 rfl rfl rfl ?_
    refine w_iconst (q := 30) hc dX7_power_29 ci_1 rfl ?_
    refine w_callV_Wi (q := 33) (st := []) (args := [.int 1]) (p := 0) hc (m_X7_refuse hK hR) dX7_power_30 ml_X7_56 cf_X7_refuse iv_X7_refuse (k_0 hK) (C := RX7) (T := TX7) (N := 7) rfl rfl (Nat.lt_of_succ_le (Nat.le_of_ble_eq_true rfl)) rfl rfl (Nat.le_of_ble_eq_true rfl) ⟨Nat.le_of_ble_eq_true rfl, Nat.le_of_ble_eq_true rfl⟩ rfl (fun q_2 => ?_)
    refine w_i2l (q := 34) hc dX7_power_33  rfl ?_
    exact w_lreturn hc hq dX7_power_34 rfl rfl
  · refine w_iload_n (q := 15) (i := 3) (j := 3) hc dX7_power_14 rfl rfl rfl ?_
    refine w_sipush (q := 18) hc dX7_power_15 cs_m1000 rfl ?_
    refine w_icmplt (q := 21) (tgt := 28) hc dX7_power_18 rfl rfl ?_ ?_
    · refine w_aload_n (q := 29) (i := 0) (j := 1) hc dX7_power_28 rfl rfl rfl ?_
      refine w_iconst (q := 30) hc dX7_power_29 ci_1 rfl ?_
      refine w_callV_Wi (q := 33) (st := []) (args := [.int 1]) (p := 0) hc (m_X7_refuse hK hR) dX7_power_30 ml_X7_56 cf_X7_refuse iv_X7_refuse (k_0 hK) (C := RX7) (T := TX7) (N := 7) rfl rfl (Nat.lt_of_succ_le (Nat.le_of_ble_eq_true rfl)) rfl rfl (Nat.le_of_ble_eq_true rfl) ⟨Nat.le_of_ble_eq_true rfl, Nat.le_of_ble_eq_true rfl⟩ rfl (fun q_3 => ?_)
      refine w_i2l (q := 34) hc dX7_power_33  rfl ?_
      exact w_lreturn hc hq dX7_power_34 rfl rfl
    · refine w_iload_n (q := 22) (i := 3) (j := 3) hc dX7_power_21 rfl rfl rfl ?_
      refine w_sipush (q := 25) hc dX7_power_22 cs_1000 rfl ?_
      refine w_icmple (q := 28) (tgt := 35) hc dX7_power_25 rfl rfl ?_ ?_
      · refine w_aload_n (q := 36) (i := 0) (j := 1) hc dX7_power_35 rfl rfl rfl ?_
        refine w_lload (q := 38) (i := 4) (j := 0) hc dX7_power_36 rfl rfl ?_
        refine w_iload_n (q := 39) (i := 3) (j := 3) hc dX7_power_38 rfl rfl rfl ?_
        refine w_aload_n (q := 40) (i := 0) (j := 1) hc dX7_power_39 rfl rfl rfl ?_
        refine gf_X7_19 (q := 43) hc dX7_power_40 (k_0 hK) (r_0_1 hR) rfl ?_
        refine gf_X7_95 (q := 46) hc dX7_power_43 (k_6 hK) rfl ?_
        refine w_callS_Rl (q := 49) (st := [.ref 0]) (args := [.long q_1, .int a3, .int (I 6 0)]) hc (m_X6_raise hK hR) dX7_power_46 ml_X7_132 cf_X6_raise st_X6_raise rfl rfl (Nat.le_of_ble_eq_true rfl) ⟨Nat.le_of_ble_eq_true rfl, Nat.le_of_ble_eq_true rfl⟩ rfl (fun q_4 => ?_)
        refine w_callV_Wl (q := 52) (st := []) (args := [.long q_4]) (p := 0) hc (m_X7_tellTurn hK hR) dX7_power_49 ml_X7_110 cf_X7_tellTurn iv_X7_tellTurn (k_0 hK) (C := RX7) (T := TX7) (N := 7) rfl rfl (Nat.lt_of_succ_le (Nat.le_of_ble_eq_true rfl)) rfl rfl (Nat.le_of_ble_eq_true rfl) ⟨Nat.le_of_ble_eq_true rfl, Nat.le_of_ble_eq_true rfl⟩ rfl (fun q_5 => ?_)
        exact w_lreturn hc hq dX7_power_52 rfl rfl
      · refine w_aload_n (q := 29) (i := 0) (j := 1) hc dX7_power_28 rfl rfl rfl ?_
        refine w_iconst (q := 30) hc dX7_power_29 ci_1 rfl ?_
        refine w_callV_Wi (q := 33) (st := []) (args := [.int 1]) (p := 0) hc (m_X7_refuse hK hR) dX7_power_30 ml_X7_56 cf_X7_refuse iv_X7_refuse (k_0 hK) (C := RX7) (T := TX7) (N := 7) rfl rfl (Nat.lt_of_succ_le (Nat.le_of_ble_eq_true rfl)) rfl rfl (Nat.le_of_ble_eq_true rfl) ⟨Nat.le_of_ble_eq_true rfl, Nat.le_of_ble_eq_true rfl⟩ rfl (fun q_6 => ?_)
        refine w_i2l (q := 34) hc dX7_power_33  rfl ?_
        exact w_lreturn hc hq dX7_power_34 rfl rfl
set_option maxRecDepth 100000 in
set_option maxHeartbeats 4000000 in
theorem m_X7_about {l : Launch} {K : KT} {R : MR} {rm : Nat} {a1 : Int64} {a3 : Int32} {I : MI} {L : ML} (hK0 : K = lK rm) (hR0 : R = lR rm) : MFg l yX7_about cX7_about 8 (some .int) 3 73 [.ref 0, .long a1, .int a3] K R I L anIW meW (f_X7_about a1 a3 I L) := by
  refine mf_of (plainFor_of_name (by decide)) (Nat.le_of_ble_eq_true rfl) ?_
  intro G hc _ hK1 hR1 hn hq
  have hK := hK1.trans hK0
  have hR := hR1.trans hR0
  have hN : ∀ i, Nat.blt i 8 = true → i < gnL G := fun i h => hn ▸ Nat.blt_eq.mp h
  unfold f_X7_about
  show WW G 0 [(0, .ref 0), (1, .long a1), (3, .int a3)] [] I L _
  refine w_aload_n (q := 1) (i := 0) (j := 0) hc dX7_about_0 rfl rfl rfl ?_
  refine w_lload_n (q := 2) (i := 1) (j := 1) hc dX7_about_1 rfl rfl rfl ?_
  refine w_callV_Rl (q := 5) (st := []) (args := [.long a1]) (p := 0) hc (m_X7_read hK hR) dX7_about_2 ml_X7_114 cf_X7_read iv_X7_read (k_0 hK) (C := RX7) (T := TX7) (N := 7) rfl rfl (Nat.lt_of_succ_le (Nat.le_of_ble_eq_true rfl)) rfl rfl (Nat.le_of_ble_eq_true rfl) ⟨Nat.le_of_ble_eq_true rfl, Nat.le_of_ble_eq_true rfl⟩ rfl (fun q_1 => ?_)
  refine w_lstore (q := 7) (i := 4) (lv' := [(4, .long q_1), (0, .ref 0), (1, .long a1), (3, .int a3)]) hc dX7_about_5 (hN 5 rfl) rfl rfl ?_
  refine w_lload (q := 9) (i := 4) (j := 0) hc dX7_about_7 rfl rfl ?_
  refine w_lconst (q := 10) hc dX7_about_9 cl_0 rfl ?_
  refine w_lcmp (q := 11) hc dX7_about_10  rfl ?_
  refine w_ifge (q := 14) (tgt := 20) hc dX7_about_11 rfl rfl ?_ ?_
  · refine w_lload (q := 22) (i := 4) (j := 0) hc dX7_about_20 rfl rfl ?_
    refine w_aload_n (q := 23) (i := 0) (j := 1) hc dX7_about_22 rfl rfl rfl ?_
    refine gf_X7_19 (q := 26) hc dX7_about_23 (k_0 hK) (r_0_1 hR) rfl ?_
    refine gf_X7_95 (q := 29) hc dX7_about_26 (k_6 hK) rfl ?_
    refine w_callS_Rl (q := 32) (st := []) (args := [.long q_1, .int (I 6 0)]) hc (m_X6_shape hK hR) dX7_about_29 ml_X7_136 cf_X6_shape st_X6_shape rfl rfl (Nat.le_of_ble_eq_true rfl) ⟨Nat.le_of_ble_eq_true rfl, Nat.le_of_ble_eq_true rfl⟩ rfl (fun q_2 => ?_)
    refine w_lstore (q := 34) (i := 6) (lv' := [(6, .long q_2), (4, .long q_1), (0, .ref 0), (1, .long a1), (3, .int a3)]) hc dX7_about_32 (hN 7 rfl) rfl rfl ?_
    refine w_iload_n (q := 35) (i := 3) (j := 4) hc dX7_about_34 rfl rfl rfl ?_
    refine w_tsw5 hc dX7_about_35 rfl rfl rfl rfl rfl rfl ?_ ?_ ?_ ?_ ?_ ?_
    · refine w_aload_n (q := 69) (i := 0) (j := 2) hc dX7_about_68 rfl rfl rfl ?_
      refine w_lload (q := 71) (i := 6) (j := 0) hc dX7_about_69 rfl rfl ?_
      refine w_callS_Ri (q := 74) (st := [.ref 0]) (args := [.long q_2]) hc (m_X6_period hK hR) dX7_about_71 ml_X7_139 cf_X6_period st_X6_period rfl rfl (Nat.le_of_ble_eq_true rfl) ⟨Nat.le_of_ble_eq_true rfl, Nat.le_of_ble_eq_true rfl⟩ rfl (fun q_3 => ?_)
      refine w_callV_Wi (q := 77) (st := []) (args := [.int q_3]) (p := 0) hc (m_X7_tell hK hR) dX7_about_74 ml_X7_86 cf_X7_tell iv_X7_tell (k_0 hK) (C := RX7) (T := TX7) (N := 7) rfl rfl (Nat.lt_of_succ_le (Nat.le_of_ble_eq_true rfl)) rfl rfl (Nat.le_of_ble_eq_true rfl) ⟨Nat.le_of_ble_eq_true rfl, Nat.le_of_ble_eq_true rfl⟩ rfl (fun q_4 => ?_)
      exact w_ireturn (v := q_4.1) hc hq dX7_about_77 rfl rfl rfl
    · refine w_aload_n (q := 79) (i := 0) (j := 2) hc dX7_about_78 rfl rfl rfl ?_
      refine w_lload (q := 81) (i := 6) (j := 0) hc dX7_about_79 rfl rfl ?_
      refine w_callS_Ri (q := 84) (st := [.ref 0]) (args := [.long q_2]) hc (m_X6_cycles hK hR) dX7_about_81 ml_X7_143 cf_X6_cycles st_X6_cycles rfl rfl (Nat.le_of_ble_eq_true rfl) ⟨Nat.le_of_ble_eq_true rfl, Nat.le_of_ble_eq_true rfl⟩ rfl (fun q_5 => ?_)
      refine w_callV_Wi (q := 87) (st := []) (args := [.int q_5]) (p := 0) hc (m_X7_tell hK hR) dX7_about_84 ml_X7_86 cf_X7_tell iv_X7_tell (k_0 hK) (C := RX7) (T := TX7) (N := 7) rfl rfl (Nat.lt_of_succ_le (Nat.le_of_ble_eq_true rfl)) rfl rfl (Nat.le_of_ble_eq_true rfl) ⟨Nat.le_of_ble_eq_true rfl, Nat.le_of_ble_eq_true rfl⟩ rfl (fun q_6 => ?_)
      exact w_ireturn (v := q_6.1) hc hq dX7_about_87 rfl rfl rfl
    · refine w_aload_n (q := 89) (i := 0) (j := 2) hc dX7_about_88 rfl rfl rfl ?_
      refine w_lload (q := 91) (i := 6) (j := 0) hc dX7_about_89 rfl rfl ?_
      refine w_callS_Ri (q := 94) (st := [.ref 0]) (args := [.long q_2]) hc (m_X6_staying hK hR) dX7_about_91 ml_X7_146 cf_X6_staying st_X6_staying rfl rfl (Nat.le_of_ble_eq_true rfl) ⟨Nat.le_of_ble_eq_true rfl, Nat.le_of_ble_eq_true rfl⟩ rfl (fun q_7 => ?_)
      refine w_callV_Wi (q := 97) (st := []) (args := [.int q_7]) (p := 0) hc (m_X7_tell hK hR) dX7_about_94 ml_X7_86 cf_X7_tell iv_X7_tell (k_0 hK) (C := RX7) (T := TX7) (N := 7) rfl rfl (Nat.lt_of_succ_le (Nat.le_of_ble_eq_true rfl)) rfl rfl (Nat.le_of_ble_eq_true rfl) ⟨Nat.le_of_ble_eq_true rfl, Nat.le_of_ble_eq_true rfl⟩ rfl (fun q_8 => ?_)
      exact w_ireturn (v := q_8.1) hc hq dX7_about_97 rfl rfl rfl
    · refine w_aload_n (q := 99) (i := 0) (j := 2) hc dX7_about_98 rfl rfl rfl ?_
      refine w_lload (q := 101) (i := 4) (j := 1) hc dX7_about_99 rfl rfl ?_
      refine w_aload_n (q := 102) (i := 0) (j := 2) hc dX7_about_101 rfl rfl rfl ?_
      refine gf_X7_19 (q := 105) hc dX7_about_102 (k_0 hK) (r_0_1 hR) rfl ?_
      refine gf_X7_95 (q := 108) hc dX7_about_105 (k_6 hK) rfl ?_
      refine w_callS_Rz (q := 111) (st := [.ref 0]) (args := [.long q_1, .int (I 6 0)]) hc (m_X6_isEven hK hR) dX7_about_108 ml_X7_149 cf_X6_isEven st_X6_isEven rfl rfl (Nat.le_of_ble_eq_true rfl) ⟨Nat.le_of_ble_eq_true rfl, Nat.le_of_ble_eq_true rfl⟩ rfl (fun q_9 => ?_)
      refine w_ifeq (q := 114) (tgt := 118) hc dX7_about_111 rfl rfl ?_ ?_
      · refine w_iconst (q := 119) hc dX7_about_118 ci_0 rfl ?_
        refine w_callV_Wi (q := 122) (st := []) (args := [.int 0]) (p := 0) hc (m_X7_tell hK hR) dX7_about_119 ml_X7_86 cf_X7_tell iv_X7_tell (k_0 hK) (C := RX7) (T := TX7) (N := 7) rfl rfl (Nat.lt_of_succ_le (Nat.le_of_ble_eq_true rfl)) rfl rfl (Nat.le_of_ble_eq_true rfl) ⟨Nat.le_of_ble_eq_true rfl, Nat.le_of_ble_eq_true rfl⟩ rfl (fun q_10 => ?_)
        exact w_ireturn (v := q_10.1) hc hq dX7_about_122 rfl rfl rfl
      · refine w_iconst (q := 115) hc dX7_about_114 ci_1 rfl ?_
        refine w_goto (tgt := 119) hc dX7_about_115 rfl ?_
        refine w_callV_Wi (q := 122) (st := []) (args := [.int 1]) (p := 0) hc (m_X7_tell hK hR) dX7_about_119 ml_X7_86 cf_X7_tell iv_X7_tell (k_0 hK) (C := RX7) (T := TX7) (N := 7) rfl rfl (Nat.lt_of_succ_le (Nat.le_of_ble_eq_true rfl)) rfl rfl (Nat.le_of_ble_eq_true rfl) ⟨Nat.le_of_ble_eq_true rfl, Nat.le_of_ble_eq_true rfl⟩ rfl (fun q_11 => ?_)
        exact w_ireturn (v := q_11.1) hc hq dX7_about_122 rfl rfl rfl
    · refine w_aload_n (q := 124) (i := 0) (j := 2) hc dX7_about_123 rfl rfl rfl ?_
      refine w_lload (q := 126) (i := 4) (j := 1) hc dX7_about_124 rfl rfl ?_
      refine w_aload_n (q := 127) (i := 0) (j := 2) hc dX7_about_126 rfl rfl rfl ?_
      refine gf_X7_19 (q := 130) hc dX7_about_127 (k_0 hK) (r_0_1 hR) rfl ?_
      refine gf_X7_95 (q := 133) hc dX7_about_130 (k_6 hK) rfl ?_
      refine w_callS_Ri (q := 136) (st := [.ref 0]) (args := [.long q_1, .int (I 6 0)]) hc (m_X6_moved hK hR) dX7_about_133 ml_X7_153 cf_X6_moved st_X6_moved rfl rfl (Nat.le_of_ble_eq_true rfl) ⟨Nat.le_of_ble_eq_true rfl, Nat.le_of_ble_eq_true rfl⟩ rfl (fun q_12 => ?_)
      refine w_callV_Wi (q := 139) (st := []) (args := [.int q_12]) (p := 0) hc (m_X7_tell hK hR) dX7_about_136 ml_X7_86 cf_X7_tell iv_X7_tell (k_0 hK) (C := RX7) (T := TX7) (N := 7) rfl rfl (Nat.lt_of_succ_le (Nat.le_of_ble_eq_true rfl)) rfl rfl (Nat.le_of_ble_eq_true rfl) ⟨Nat.le_of_ble_eq_true rfl, Nat.le_of_ble_eq_true rfl⟩ rfl (fun q_13 => ?_)
      exact w_ireturn (v := q_13.1) hc hq dX7_about_139 rfl rfl rfl
    · refine w_aload_n (q := 141) (i := 0) (j := 2) hc dX7_about_140 rfl rfl rfl ?_
      refine w_iconst (q := 142) hc dX7_about_141 ci_1 rfl ?_
      refine w_callV_Wi (q := 145) (st := []) (args := [.int 1]) (p := 0) hc (m_X7_refuse hK hR) dX7_about_142 ml_X7_56 cf_X7_refuse iv_X7_refuse (k_0 hK) (C := RX7) (T := TX7) (N := 7) rfl rfl (Nat.lt_of_succ_le (Nat.le_of_ble_eq_true rfl)) rfl rfl (Nat.le_of_ble_eq_true rfl) ⟨Nat.le_of_ble_eq_true rfl, Nat.le_of_ble_eq_true rfl⟩ rfl (fun q_14 => ?_)
      exact w_ireturn (v := q_14.1) hc hq dX7_about_145 rfl rfl rfl
  · refine w_aload_n (q := 15) (i := 0) (j := 1) hc dX7_about_14 rfl rfl rfl ?_
    refine w_iconst (q := 16) hc dX7_about_15 ci_1 rfl ?_
    refine w_callV_Wi (q := 19) (st := []) (args := [.int 1]) (p := 0) hc (m_X7_refuse hK hR) dX7_about_16 ml_X7_56 cf_X7_refuse iv_X7_refuse (k_0 hK) (C := RX7) (T := TX7) (N := 7) rfl rfl (Nat.lt_of_succ_le (Nat.le_of_ble_eq_true rfl)) rfl rfl (Nat.le_of_ble_eq_true rfl) ⟨Nat.le_of_ble_eq_true rfl, Nat.le_of_ble_eq_true rfl⟩ rfl (fun q_15 => ?_)
    exact w_ireturn (v := q_15.1) hc hq dX7_about_19 rfl rfl rfl
set_option maxRecDepth 100000 in
set_option maxHeartbeats 4000000 in
theorem m_X7_orbit {l : Launch} {K : KT} {R : MR} {rm : Nat} {a1 : Int32} {I : MI} {L : ML} (hK0 : K = lK rm) (hR0 : R = lR rm) : MFg l yX7_orbit cX7_orbit 2 (some .int) 3 72 [.ref 0, .int a1] K R I L anIW meW (f_X7_orbit a1 I L) := by
  refine mf_of (plainFor_of_name (by decide)) (Nat.le_of_ble_eq_true rfl) ?_
  intro G hc _ hK1 hR1 hn hq
  have hK := hK1.trans hK0
  have hR := hR1.trans hR0
  have hN : ∀ i, Nat.blt i 2 = true → i < gnL G := fun i h => hn ▸ Nat.blt_eq.mp h
  unfold f_X7_orbit
  show WW G 0 [(0, .ref 0), (1, .int a1)] [] I L _
  refine w_aload_n (q := 1) (i := 0) (j := 0) hc dX7_orbit_0 rfl rfl rfl ?_
  refine gf_X7_19 (q := 4) hc dX7_orbit_1 (k_0 hK) (r_0_1 hR) rfl ?_
  refine w_iload_n (q := 5) (i := 1) (j := 1) hc dX7_orbit_4 rfl rfl rfl ?_
  refine w_callV_Rz (q := 8) (st := []) (args := [.int a1]) (p := 6) hc (m_X2_hasPoint hK hR) dX7_orbit_5 ml_X7_117 cf_X2_hasPoint iv_X2_hasPoint (k_6 hK) (C := RX2) (T := TX2) (N := 13) rfl rfl (Nat.lt_of_succ_le (Nat.le_of_ble_eq_true rfl)) rfl rfl (Nat.le_of_ble_eq_true rfl) ⟨Nat.le_of_ble_eq_true rfl, Nat.le_of_ble_eq_true rfl⟩ rfl (fun q_1 => ?_)
  refine w_ifne (q := 11) (tgt := 17) hc dX7_orbit_8 rfl rfl ?_ ?_
  · refine w_aload_n (q := 12) (i := 0) (j := 0) hc dX7_orbit_11 rfl rfl rfl ?_
    refine w_iconst (q := 13) hc dX7_orbit_12 ci_2 rfl ?_
    refine w_callV_Wi (q := 16) (st := []) (args := [.int 2]) (p := 0) hc (m_X7_refuse hK hR) dX7_orbit_13 ml_X7_56 cf_X7_refuse iv_X7_refuse (k_0 hK) (C := RX7) (T := TX7) (N := 7) rfl rfl (Nat.lt_of_succ_le (Nat.le_of_ble_eq_true rfl)) rfl rfl (Nat.le_of_ble_eq_true rfl) ⟨Nat.le_of_ble_eq_true rfl, Nat.le_of_ble_eq_true rfl⟩ rfl (fun q_4 => ?_)
    exact w_ireturn (v := q_4.1) hc hq dX7_orbit_16 rfl rfl rfl
  · refine w_aload_n (q := 18) (i := 0) (j := 0) hc dX7_orbit_17 rfl rfl rfl ?_
    refine w_aload_n (q := 19) (i := 0) (j := 0) hc dX7_orbit_18 rfl rfl rfl ?_
    refine gf_X7_19 (q := 22) hc dX7_orbit_19 (k_0 hK) (r_0_1 hR) rfl ?_
    refine w_iload_n (q := 23) (i := 1) (j := 1) hc dX7_orbit_22 rfl rfl rfl ?_
    refine w_callV_Ri (q := 26) (st := [.ref 0]) (args := [.int a1]) (p := 6) hc (m_X2_reachedFrom hK hR) dX7_orbit_23 ml_X7_156 cf_X2_reachedFrom iv_X2_reachedFrom (k_6 hK) (C := RX2) (T := TX2) (N := 13) rfl rfl (Nat.lt_of_succ_le (Nat.le_of_ble_eq_true rfl)) rfl rfl (Nat.le_of_ble_eq_true rfl) ⟨Nat.le_of_ble_eq_true rfl, Nat.le_of_ble_eq_true rfl⟩ rfl (fun q_2 => ?_)
    refine w_callV_Wi (q := 29) (st := []) (args := [.int q_2]) (p := 0) hc (m_X7_tell hK hR) dX7_orbit_26 ml_X7_86 cf_X7_tell iv_X7_tell (k_0 hK) (C := RX7) (T := TX7) (N := 7) rfl rfl (Nat.lt_of_succ_le (Nat.le_of_ble_eq_true rfl)) rfl rfl (Nat.le_of_ble_eq_true rfl) ⟨Nat.le_of_ble_eq_true rfl, Nat.le_of_ble_eq_true rfl⟩ rfl (fun q_3 => ?_)
    exact w_ireturn (v := q_3.1) hc hq dX7_orbit_29 rfl rfl rfl
set_option maxRecDepth 100000 in
set_option maxHeartbeats 4000000 in
theorem m_X7_orbits {l : Launch} {K : KT} {R : MR} {rm : Nat} {I : MI} {L : ML} (hK0 : K = lK rm) (hR0 : R = lR rm) : MFg l yX7_orbits cX7_orbits 1 (some .int) 4 95 [.ref 0] K R I L anIW meW (f_X7_orbits I L) := by
  refine mf_of (plainFor_of_name (by decide)) (Nat.le_of_ble_eq_true rfl) ?_
  intro G hc _ hK1 hR1 hn hq
  have hK := hK1.trans hK0
  have hR := hR1.trans hR0
  have hN : ∀ i, Nat.blt i 1 = true → i < gnL G := fun i h => hn ▸ Nat.blt_eq.mp h
  unfold f_X7_orbits
  show WW G 0 [(0, .ref 0)] [] I L _
  refine w_aload_n (q := 1) (i := 0) (j := 0) hc dX7_orbits_0 rfl rfl rfl ?_
  refine gf_X7_19 (q := 4) hc dX7_orbits_1 (k_0 hK) (r_0_1 hR) rfl ?_
  refine gf_X7_95 (q := 7) hc dX7_orbits_4 (k_6 hK) rfl ?_
  refine w_ifne (q := 10) (tgt := 16) hc dX7_orbits_7 rfl rfl ?_ ?_
  · refine w_aload_n (q := 11) (i := 0) (j := 0) hc dX7_orbits_10 rfl rfl rfl ?_
    refine w_iconst (q := 12) hc dX7_orbits_11 ci_5 rfl ?_
    refine w_callV_Wi (q := 15) (st := []) (args := [.int 5]) (p := 0) hc (m_X7_refuse hK hR) dX7_orbits_12 ml_X7_56 cf_X7_refuse iv_X7_refuse (k_0 hK) (C := RX7) (T := TX7) (N := 7) rfl rfl (Nat.lt_of_succ_le (Nat.le_of_ble_eq_true rfl)) rfl rfl (Nat.le_of_ble_eq_true rfl) ⟨Nat.le_of_ble_eq_true rfl, Nat.le_of_ble_eq_true rfl⟩ rfl (fun q_3 => ?_)
    exact w_ireturn (v := q_3.1) hc hq dX7_orbits_15 rfl rfl rfl
  · refine w_aload_n (q := 17) (i := 0) (j := 0) hc dX7_orbits_16 rfl rfl rfl ?_
    refine w_aload_n (q := 18) (i := 0) (j := 0) hc dX7_orbits_17 rfl rfl rfl ?_
    refine gf_X7_19 (q := 21) hc dX7_orbits_18 (k_0 hK) (r_0_1 hR) rfl ?_
    refine w_callV_Ri (q := 24) (st := [.ref 0]) (args := []) (p := 6) hc (m_X2_countOrbits hK hR) dX7_orbits_21 ml_X7_159 cf_X2_countOrbits iv_X2_countOrbits (k_6 hK) (C := RX2) (T := TX2) (N := 13) rfl rfl (Nat.lt_of_succ_le (Nat.le_of_ble_eq_true rfl)) rfl rfl (Nat.le_of_ble_eq_true rfl) ⟨Nat.le_of_ble_eq_true rfl, Nat.le_of_ble_eq_true rfl⟩ rfl (fun q_1 => ?_)
    refine w_callV_Wi (q := 27) (st := []) (args := [.int q_1]) (p := 0) hc (m_X7_tell hK hR) dX7_orbits_24 ml_X7_86 cf_X7_tell iv_X7_tell (k_0 hK) (C := RX7) (T := TX7) (N := 7) rfl rfl (Nat.lt_of_succ_le (Nat.le_of_ble_eq_true rfl)) rfl rfl (Nat.le_of_ble_eq_true rfl) ⟨Nat.le_of_ble_eq_true rfl, Nat.le_of_ble_eq_true rfl⟩ rfl (fun q_2 => ?_)
    exact w_ireturn (v := q_2.1) hc hq dX7_orbits_27 rfl rfl rfl
set_option maxRecDepth 100000 in
set_option maxHeartbeats 4000000 in
theorem m_X7_base {l : Launch} {K : KT} {R : MR} {rm : Nat} {a1 : Int32} {I : MI} {L : ML} (hK0 : K = lK rm) (hR0 : R = lR rm) : MFg l yX7_base cX7_base 3 (some .int) 2 43 [.ref 0, .int a1] K R I L anIW meW (f_X7_base a1 I L) := by
  refine mf_of (plainFor_of_name (by decide)) (Nat.le_of_ble_eq_true rfl) ?_
  intro G hc _ hK1 hR1 hn hq
  have hK := hK1.trans hK0
  have hR := hR1.trans hR0
  have hN : ∀ i, Nat.blt i 3 = true → i < gnL G := fun i h => hn ▸ Nat.blt_eq.mp h
  unfold f_X7_base
  show WW G 0 [(0, .ref 0), (1, .int a1)] [] I L _
  refine w_iload_n (q := 1) (i := 1) (j := 1) hc dX7_base_0 rfl rfl rfl ?_
  refine w_iconst (q := 2) hc dX7_base_1 ci_m1 rfl ?_
  refine w_icmpge (q := 5) (tgt := 11) hc dX7_base_2 rfl rfl ?_ ?_
  · refine w_aload_n (q := 12) (i := 0) (j := 0) hc dX7_base_11 rfl rfl rfl ?_
    refine gf_X7_19 (q := 15) hc dX7_base_12 (k_0 hK) (r_0_1 hR) rfl ?_
    refine gf_X7_95 (q := 18) hc dX7_base_15 (k_6 hK) rfl ?_
    refine w_ifne (q := 21) (tgt := 27) hc dX7_base_18 rfl rfl ?_ ?_
    · refine w_aload_n (q := 22) (i := 0) (j := 0) hc dX7_base_21 rfl rfl rfl ?_
      refine w_iconst (q := 23) hc dX7_base_22 ci_5 rfl ?_
      refine w_callV_Wi (q := 26) (st := []) (args := [.int 5]) (p := 0) hc (m_X7_refuse hK hR) dX7_base_23 ml_X7_56 cf_X7_refuse iv_X7_refuse (k_0 hK) (C := RX7) (T := TX7) (N := 7) rfl rfl (Nat.lt_of_succ_le (Nat.le_of_ble_eq_true rfl)) rfl rfl (Nat.le_of_ble_eq_true rfl) ⟨Nat.le_of_ble_eq_true rfl, Nat.le_of_ble_eq_true rfl⟩ rfl (fun q_6 => ?_)
      exact w_ireturn (v := q_6.1) hc hq dX7_base_26 rfl rfl rfl
    · refine w_iload_n (q := 28) (i := 1) (j := 1) hc dX7_base_27 rfl rfl rfl ?_
      refine w_iconst (q := 29) hc dX7_base_28 ci_m1 rfl ?_
      refine w_icmpne (q := 32) (tgt := 47) hc dX7_base_29 rfl rfl ?_ ?_
      · refine w_aload_n (q := 33) (i := 0) (j := 0) hc dX7_base_32 rfl rfl rfl ?_
        refine w_aload_n (q := 34) (i := 0) (j := 0) hc dX7_base_33 rfl rfl rfl ?_
        refine gf_X7_19 (q := 37) hc dX7_base_34 (k_0 hK) (r_0_1 hR) rfl ?_
        refine gf_X7_163 (q := 40) hc dX7_base_37 (k_6 hK) (r_6_3 hR) rfl ?_
        refine w_callV_Ri (q := 43) (st := [.ref 0]) (args := []) (p := 8) hc (m_X0_countHeld hK hR (ch_8)) dX7_base_40 ml_X7_167 cf_X0_countHeld iv_X0_countHeld (k_8 hK) (C := RX0) (T := TX0) (N := 8) rfl rfl (Nat.lt_of_succ_le (Nat.le_of_ble_eq_true rfl)) rfl rfl (Nat.le_of_ble_eq_true rfl) ⟨Nat.le_of_ble_eq_true rfl, Nat.le_of_ble_eq_true rfl⟩ rfl (fun q_4 => ?_)
        refine w_callV_Wi (q := 46) (st := []) (args := [.int q_4]) (p := 0) hc (m_X7_tell hK hR) dX7_base_43 ml_X7_86 cf_X7_tell iv_X7_tell (k_0 hK) (C := RX7) (T := TX7) (N := 7) rfl rfl (Nat.lt_of_succ_le (Nat.le_of_ble_eq_true rfl)) rfl rfl (Nat.le_of_ble_eq_true rfl) ⟨Nat.le_of_ble_eq_true rfl, Nat.le_of_ble_eq_true rfl⟩ rfl (fun q_5 => ?_)
        exact w_ireturn (v := q_5.1) hc hq dX7_base_46 rfl rfl rfl
      · refine w_aload_n (q := 48) (i := 0) (j := 0) hc dX7_base_47 rfl rfl rfl ?_
        refine gf_X7_19 (q := 51) hc dX7_base_48 (k_0 hK) (r_0_1 hR) rfl ?_
        refine gf_X7_163 (q := 54) hc dX7_base_51 (k_6 hK) (r_6_3 hR) rfl ?_
        refine w_iload_n (q := 55) (i := 1) (j := 1) hc dX7_base_54 rfl rfl rfl ?_
        refine w_callV_Ri (q := 58) (st := []) (args := [.int a1]) (p := 8) hc (m_X0_heldPoint hK hR (ch_8)) dX7_base_55 ml_X7_172 cf_X0_heldPoint iv_X0_heldPoint (k_8 hK) (C := RX0) (T := TX0) (N := 8) rfl rfl (Nat.lt_of_succ_le (Nat.le_of_ble_eq_true rfl)) rfl rfl (Nat.le_of_ble_eq_true rfl) ⟨Nat.le_of_ble_eq_true rfl, Nat.le_of_ble_eq_true rfl⟩ rfl (fun q_1 => ?_)
        refine w_istore_n (q := 59) (i := 2) (lv' := [(2, .int q_1), (0, .ref 0), (1, .int a1)]) hc dX7_base_58 rfl (hN 2 rfl) rfl rfl ?_
        refine w_iload_n (q := 60) (i := 2) (j := 0) hc dX7_base_59 rfl rfl rfl ?_
        refine w_ifge (q := 63) (tgt := 71) hc dX7_base_60 rfl rfl ?_ ?_
        · refine w_aload_n (q := 72) (i := 0) (j := 1) hc dX7_base_71 rfl rfl rfl ?_
          refine w_iload_n (q := 73) (i := 2) (j := 0) hc dX7_base_72 rfl rfl rfl ?_
          refine w_callV_Wi (q := 76) (st := []) (args := [.int q_1]) (p := 0) hc (m_X7_tell hK hR) dX7_base_73 ml_X7_86 cf_X7_tell iv_X7_tell (k_0 hK) (C := RX7) (T := TX7) (N := 7) rfl rfl (Nat.lt_of_succ_le (Nat.le_of_ble_eq_true rfl)) rfl rfl (Nat.le_of_ble_eq_true rfl) ⟨Nat.le_of_ble_eq_true rfl, Nat.le_of_ble_eq_true rfl⟩ rfl (fun q_2 => ?_)
          exact w_ireturn (v := q_2.1) hc hq dX7_base_76 rfl rfl rfl
        · refine w_aload_n (q := 64) (i := 0) (j := 1) hc dX7_base_63 rfl rfl rfl ?_
          refine w_iconst (q := 65) hc dX7_base_64 ci_5 rfl ?_
          refine w_callV_Wi (q := 68) (st := []) (args := [.int 5]) (p := 0) hc (m_X7_refuse hK hR) dX7_base_65 ml_X7_56 cf_X7_refuse iv_X7_refuse (k_0 hK) (C := RX7) (T := TX7) (N := 7) rfl rfl (Nat.lt_of_succ_le (Nat.le_of_ble_eq_true rfl)) rfl rfl (Nat.le_of_ble_eq_true rfl) ⟨Nat.le_of_ble_eq_true rfl, Nat.le_of_ble_eq_true rfl⟩ rfl (fun q_3 => ?_)
          refine w_goto (tgt := 76) hc dX7_base_68 rfl ?_
          exact w_ireturn (v := q_3.1) hc hq dX7_base_76 rfl rfl rfl
  · refine w_aload_n (q := 6) (i := 0) (j := 0) hc dX7_base_5 rfl rfl rfl ?_
    refine w_iconst (q := 7) hc dX7_base_6 ci_1 rfl ?_
    refine w_callV_Wi (q := 10) (st := []) (args := [.int 1]) (p := 0) hc (m_X7_refuse hK hR) dX7_base_7 ml_X7_56 cf_X7_refuse iv_X7_refuse (k_0 hK) (C := RX7) (T := TX7) (N := 7) rfl rfl (Nat.lt_of_succ_le (Nat.le_of_ble_eq_true rfl)) rfl rfl (Nat.le_of_ble_eq_true rfl) ⟨Nat.le_of_ble_eq_true rfl, Nat.le_of_ble_eq_true rfl⟩ rfl (fun q_7 => ?_)
    exact w_ireturn (v := q_7.1) hc hq dX7_base_10 rfl rfl rfl
set_option maxRecDepth 100000 in
set_option maxHeartbeats 4000000 in
theorem m_X7_level {l : Launch} {K : KT} {R : MR} {rm : Nat} {a1 : Int32} {I : MI} {L : ML} (hK0 : K = lK rm) (hR0 : R = lR rm) : MFg l yX7_level cX7_level 3 (some .int) 2 43 [.ref 0, .int a1] K R I L anIW meW (f_X7_level a1 I L) := by
  refine mf_of (plainFor_of_name (by decide)) (Nat.le_of_ble_eq_true rfl) ?_
  intro G hc _ hK1 hR1 hn hq
  have hK := hK1.trans hK0
  have hR := hR1.trans hR0
  have hN : ∀ i, Nat.blt i 3 = true → i < gnL G := fun i h => hn ▸ Nat.blt_eq.mp h
  unfold f_X7_level
  show WW G 0 [(0, .ref 0), (1, .int a1)] [] I L _
  refine w_iload_n (q := 1) (i := 1) (j := 1) hc dX7_level_0 rfl rfl rfl ?_
  refine w_ifge (q := 4) (tgt := 10) hc dX7_level_1 rfl rfl ?_ ?_
  · refine w_aload_n (q := 11) (i := 0) (j := 0) hc dX7_level_10 rfl rfl rfl ?_
    refine gf_X7_19 (q := 14) hc dX7_level_11 (k_0 hK) (r_0_1 hR) rfl ?_
    refine gf_X7_95 (q := 17) hc dX7_level_14 (k_6 hK) rfl ?_
    refine w_ifne (q := 20) (tgt := 26) hc dX7_level_17 rfl rfl ?_ ?_
    · refine w_aload_n (q := 21) (i := 0) (j := 0) hc dX7_level_20 rfl rfl rfl ?_
      refine w_iconst (q := 22) hc dX7_level_21 ci_5 rfl ?_
      refine w_callV_Wi (q := 25) (st := []) (args := [.int 5]) (p := 0) hc (m_X7_refuse hK hR) dX7_level_22 ml_X7_56 cf_X7_refuse iv_X7_refuse (k_0 hK) (C := RX7) (T := TX7) (N := 7) rfl rfl (Nat.lt_of_succ_le (Nat.le_of_ble_eq_true rfl)) rfl rfl (Nat.le_of_ble_eq_true rfl) ⟨Nat.le_of_ble_eq_true rfl, Nat.le_of_ble_eq_true rfl⟩ rfl (fun q_5 => ?_)
      exact w_ireturn (v := q_5.1) hc hq dX7_level_25 rfl rfl rfl
    · refine w_aload_n (q := 27) (i := 0) (j := 0) hc dX7_level_26 rfl rfl rfl ?_
      refine gf_X7_19 (q := 30) hc dX7_level_27 (k_0 hK) (r_0_1 hR) rfl ?_
      refine gf_X7_163 (q := 33) hc dX7_level_30 (k_6 hK) (r_6_3 hR) rfl ?_
      refine w_iload_n (q := 34) (i := 1) (j := 1) hc dX7_level_33 rfl rfl rfl ?_
      refine w_callV_Ri (q := 37) (st := []) (args := [.int a1]) (p := 8) hc (m_X0_heldPoint hK hR (ch_8)) dX7_level_34 ml_X7_172 cf_X0_heldPoint iv_X0_heldPoint (k_8 hK) (C := RX0) (T := TX0) (N := 8) rfl rfl (Nat.lt_of_succ_le (Nat.le_of_ble_eq_true rfl)) rfl rfl (Nat.le_of_ble_eq_true rfl) ⟨Nat.le_of_ble_eq_true rfl, Nat.le_of_ble_eq_true rfl⟩ rfl (fun q_1 => ?_)
      refine w_istore_n (q := 38) (i := 2) (lv' := [(2, .int q_1), (0, .ref 0), (1, .int a1)]) hc dX7_level_37 rfl (hN 2 rfl) rfl rfl ?_
      refine w_iload_n (q := 39) (i := 2) (j := 0) hc dX7_level_38 rfl rfl rfl ?_
      refine w_ifge (q := 42) (tgt := 50) hc dX7_level_39 rfl rfl ?_ ?_
      · refine w_aload_n (q := 51) (i := 0) (j := 1) hc dX7_level_50 rfl rfl rfl ?_
        refine w_aload_n (q := 52) (i := 0) (j := 1) hc dX7_level_51 rfl rfl rfl ?_
        refine gf_X7_19 (q := 55) hc dX7_level_52 (k_0 hK) (r_0_1 hR) rfl ?_
        refine gf_X7_163 (q := 58) hc dX7_level_55 (k_6 hK) (r_6_3 hR) rfl ?_
        refine w_iload_n (q := 59) (i := 2) (j := 0) hc dX7_level_58 rfl rfl rfl ?_
        refine w_callV_Ri (q := 62) (st := [.ref 0]) (args := [.int q_1]) (p := 8) hc (m_X0_reachedAt hK hR (ch_8)) dX7_level_59 ml_X7_175 cf_X0_reachedAt iv_X0_reachedAt (k_8 hK) (C := RX0) (T := TX0) (N := 8) rfl rfl (Nat.lt_of_succ_le (Nat.le_of_ble_eq_true rfl)) rfl rfl (Nat.le_of_ble_eq_true rfl) ⟨Nat.le_of_ble_eq_true rfl, Nat.le_of_ble_eq_true rfl⟩ rfl (fun q_2 => ?_)
        refine w_callV_Wi (q := 65) (st := []) (args := [.int q_2]) (p := 0) hc (m_X7_tell hK hR) dX7_level_62 ml_X7_86 cf_X7_tell iv_X7_tell (k_0 hK) (C := RX7) (T := TX7) (N := 7) rfl rfl (Nat.lt_of_succ_le (Nat.le_of_ble_eq_true rfl)) rfl rfl (Nat.le_of_ble_eq_true rfl) ⟨Nat.le_of_ble_eq_true rfl, Nat.le_of_ble_eq_true rfl⟩ rfl (fun q_3 => ?_)
        exact w_ireturn (v := q_3.1) hc hq dX7_level_65 rfl rfl rfl
      · refine w_aload_n (q := 43) (i := 0) (j := 1) hc dX7_level_42 rfl rfl rfl ?_
        refine w_iconst (q := 44) hc dX7_level_43 ci_5 rfl ?_
        refine w_callV_Wi (q := 47) (st := []) (args := [.int 5]) (p := 0) hc (m_X7_refuse hK hR) dX7_level_44 ml_X7_56 cf_X7_refuse iv_X7_refuse (k_0 hK) (C := RX7) (T := TX7) (N := 7) rfl rfl (Nat.lt_of_succ_le (Nat.le_of_ble_eq_true rfl)) rfl rfl (Nat.le_of_ble_eq_true rfl) ⟨Nat.le_of_ble_eq_true rfl, Nat.le_of_ble_eq_true rfl⟩ rfl (fun q_4 => ?_)
        refine w_goto (tgt := 65) hc dX7_level_47 rfl ?_
        exact w_ireturn (v := q_4.1) hc hq dX7_level_65 rfl rfl rfl
  · refine w_aload_n (q := 5) (i := 0) (j := 0) hc dX7_level_4 rfl rfl rfl ?_
    refine w_iconst (q := 6) hc dX7_level_5 ci_1 rfl ?_
    refine w_callV_Wi (q := 9) (st := []) (args := [.int 1]) (p := 0) hc (m_X7_refuse hK hR) dX7_level_6 ml_X7_56 cf_X7_refuse iv_X7_refuse (k_0 hK) (C := RX7) (T := TX7) (N := 7) rfl rfl (Nat.lt_of_succ_le (Nat.le_of_ble_eq_true rfl)) rfl rfl (Nat.le_of_ble_eq_true rfl) ⟨Nat.le_of_ble_eq_true rfl, Nat.le_of_ble_eq_true rfl⟩ rfl (fun q_6 => ?_)
    exact w_ireturn (v := q_6.1) hc hq dX7_level_9 rfl rfl rfl
set_option maxRecDepth 100000 in
set_option maxHeartbeats 4000000 in
theorem m_X7_order {l : Launch} {K : KT} {R : MR} {rm : Nat} {I : MI} {L : ML} (hK0 : K = lK rm) (hR0 : R = lR rm) : MFg l yX7_order cX7_order 1 (some .int) 4 83 [.ref 0] K R I L anIW meW (f_X7_order I L) := by
  refine mf_of (plainFor_of_name (by decide)) (Nat.le_of_ble_eq_true rfl) ?_
  intro G hc _ hK1 hR1 hn hq
  have hK := hK1.trans hK0
  have hR := hR1.trans hR0
  have hN : ∀ i, Nat.blt i 1 = true → i < gnL G := fun i h => hn ▸ Nat.blt_eq.mp h
  unfold f_X7_order
  show WW G 0 [(0, .ref 0)] [] I L _
  refine w_aload_n (q := 1) (i := 0) (j := 0) hc dX7_order_0 rfl rfl rfl ?_
  refine gf_X7_19 (q := 4) hc dX7_order_1 (k_0 hK) (r_0_1 hR) rfl ?_
  refine gf_X7_95 (q := 7) hc dX7_order_4 (k_6 hK) rfl ?_
  refine w_ifne (q := 10) (tgt := 16) hc dX7_order_7 rfl rfl ?_ ?_
  · refine w_aload_n (q := 11) (i := 0) (j := 0) hc dX7_order_10 rfl rfl rfl ?_
    refine w_iconst (q := 12) hc dX7_order_11 ci_5 rfl ?_
    refine w_callV_Wi (q := 15) (st := []) (args := [.int 5]) (p := 0) hc (m_X7_refuse hK hR) dX7_order_12 ml_X7_56 cf_X7_refuse iv_X7_refuse (k_0 hK) (C := RX7) (T := TX7) (N := 7) rfl rfl (Nat.lt_of_succ_le (Nat.le_of_ble_eq_true rfl)) rfl rfl (Nat.le_of_ble_eq_true rfl) ⟨Nat.le_of_ble_eq_true rfl, Nat.le_of_ble_eq_true rfl⟩ rfl (fun q_3 => ?_)
    exact w_ireturn (v := q_3.1) hc hq dX7_order_15 rfl rfl rfl
  · refine w_aload_n (q := 17) (i := 0) (j := 0) hc dX7_order_16 rfl rfl rfl ?_
    refine w_aload_n (q := 18) (i := 0) (j := 0) hc dX7_order_17 rfl rfl rfl ?_
    refine gf_X7_19 (q := 21) hc dX7_order_18 (k_0 hK) (r_0_1 hR) rfl ?_
    refine w_callV_Ri (q := 24) (st := [.ref 0]) (args := []) (p := 6) hc (m_X2_size hK hR) dX7_order_21 ml_X7_178 cf_X2_size iv_X2_size (k_6 hK) (C := RX2) (T := TX2) (N := 13) rfl rfl (Nat.lt_of_succ_le (Nat.le_of_ble_eq_true rfl)) rfl rfl (Nat.le_of_ble_eq_true rfl) ⟨Nat.le_of_ble_eq_true rfl, Nat.le_of_ble_eq_true rfl⟩ rfl (fun q_1 => ?_)
    refine w_callV_Wi (q := 27) (st := []) (args := [.int q_1]) (p := 0) hc (m_X7_tell hK hR) dX7_order_24 ml_X7_86 cf_X7_tell iv_X7_tell (k_0 hK) (C := RX7) (T := TX7) (N := 7) rfl rfl (Nat.lt_of_succ_le (Nat.le_of_ble_eq_true rfl)) rfl rfl (Nat.le_of_ble_eq_true rfl) ⟨Nat.le_of_ble_eq_true rfl, Nat.le_of_ble_eq_true rfl⟩ rfl (fun q_2 => ?_)
    exact w_ireturn (v := q_2.1) hc hq dX7_order_27 rfl rfl rfl
set_option maxRecDepth 100000 in
set_option maxHeartbeats 4000000 in
theorem m_X7_member {l : Launch} {K : KT} {R : MR} {rm : Nat} {a1 : Int64} {I : MI} {L : ML} (hK0 : K = lK rm) (hR0 : R = lR rm) : MFg l yX7_member cX7_member 5 (some .int) 3 78 [.ref 0, .long a1] K R I L anIW meW (f_X7_member a1 I L) := by
  refine mf_of (plainFor_of_name (by decide)) (Nat.le_of_ble_eq_true rfl) ?_
  intro G hc _ hK1 hR1 hn hq
  have hK := hK1.trans hK0
  have hR := hR1.trans hR0
  have hN : ∀ i, Nat.blt i 5 = true → i < gnL G := fun i h => hn ▸ Nat.blt_eq.mp h
  unfold f_X7_member
  show WW G 0 [(0, .ref 0), (1, .long a1)] [] I L _
  refine w_aload_n (q := 1) (i := 0) (j := 0) hc dX7_member_0 rfl rfl rfl ?_
  refine w_lload_n (q := 2) (i := 1) (j := 1) hc dX7_member_1 rfl rfl rfl ?_
  refine w_callV_Rl (q := 5) (st := []) (args := [.long a1]) (p := 0) hc (m_X7_read hK hR) dX7_member_2 ml_X7_114 cf_X7_read iv_X7_read (k_0 hK) (C := RX7) (T := TX7) (N := 7) rfl rfl (Nat.lt_of_succ_le (Nat.le_of_ble_eq_true rfl)) rfl rfl (Nat.le_of_ble_eq_true rfl) ⟨Nat.le_of_ble_eq_true rfl, Nat.le_of_ble_eq_true rfl⟩ rfl (fun q_1 => ?_)
  refine w_lstore_n (q := 6) (i := 3) (lv' := [(3, .long q_1), (0, .ref 0), (1, .long a1)]) hc dX7_member_5 rfl (hN 4 rfl) rfl rfl ?_
  refine w_lload_n (q := 7) (i := 3) (j := 0) hc dX7_member_6 rfl rfl rfl ?_
  refine w_lconst (q := 8) hc dX7_member_7 cl_0 rfl ?_
  refine w_lcmp (q := 9) hc dX7_member_8  rfl ?_
  refine w_ifge (q := 12) (tgt := 18) hc dX7_member_9 rfl rfl ?_ ?_
  · refine w_aload_n (q := 19) (i := 0) (j := 1) hc dX7_member_18 rfl rfl rfl ?_
    refine w_aload_n (q := 20) (i := 0) (j := 1) hc dX7_member_19 rfl rfl rfl ?_
    refine gf_X7_19 (q := 23) hc dX7_member_20 (k_0 hK) (r_0_1 hR) rfl ?_
    refine gf_X7_163 (q := 26) hc dX7_member_23 (k_6 hK) (r_6_3 hR) rfl ?_
    refine w_lload_n (q := 27) (i := 3) (j := 0) hc dX7_member_26 rfl rfl rfl ?_
    refine w_callV_Rz (q := 30) (st := [.ref 0]) (args := [.long q_1]) (p := 8) hc (m_X0_contains hK hR (ch_8)) dX7_member_27 ml_X7_181 cf_X0_contains iv_X0_contains (k_8 hK) (C := RX0) (T := TX0) (N := 8) rfl rfl (Nat.lt_of_succ_le (Nat.le_of_ble_eq_true rfl)) rfl rfl (Nat.le_of_ble_eq_true rfl) ⟨Nat.le_of_ble_eq_true rfl, Nat.le_of_ble_eq_true rfl⟩ rfl (fun q_2 => ?_)
    refine w_ifeq (q := 33) (tgt := 37) hc dX7_member_30 rfl rfl ?_ ?_
    · refine w_iconst (q := 38) hc dX7_member_37 ci_0 rfl ?_
      refine w_callV_Wi (q := 41) (st := []) (args := [.int 0]) (p := 0) hc (m_X7_tell hK hR) dX7_member_38 ml_X7_86 cf_X7_tell iv_X7_tell (k_0 hK) (C := RX7) (T := TX7) (N := 7) rfl rfl (Nat.lt_of_succ_le (Nat.le_of_ble_eq_true rfl)) rfl rfl (Nat.le_of_ble_eq_true rfl) ⟨Nat.le_of_ble_eq_true rfl, Nat.le_of_ble_eq_true rfl⟩ rfl (fun q_3 => ?_)
      exact w_ireturn (v := q_3.1) hc hq dX7_member_41 rfl rfl rfl
    · refine w_iconst (q := 34) hc dX7_member_33 ci_1 rfl ?_
      refine w_goto (tgt := 38) hc dX7_member_34 rfl ?_
      refine w_callV_Wi (q := 41) (st := []) (args := [.int 1]) (p := 0) hc (m_X7_tell hK hR) dX7_member_38 ml_X7_86 cf_X7_tell iv_X7_tell (k_0 hK) (C := RX7) (T := TX7) (N := 7) rfl rfl (Nat.lt_of_succ_le (Nat.le_of_ble_eq_true rfl)) rfl rfl (Nat.le_of_ble_eq_true rfl) ⟨Nat.le_of_ble_eq_true rfl, Nat.le_of_ble_eq_true rfl⟩ rfl (fun q_4 => ?_)
      exact w_ireturn (v := q_4.1) hc hq dX7_member_41 rfl rfl rfl
  · refine w_aload_n (q := 13) (i := 0) (j := 1) hc dX7_member_12 rfl rfl rfl ?_
    refine w_iconst (q := 14) hc dX7_member_13 ci_1 rfl ?_
    refine w_callV_Wi (q := 17) (st := []) (args := [.int 1]) (p := 0) hc (m_X7_refuse hK hR) dX7_member_14 ml_X7_56 cf_X7_refuse iv_X7_refuse (k_0 hK) (C := RX7) (T := TX7) (N := 7) rfl rfl (Nat.lt_of_succ_le (Nat.le_of_ble_eq_true rfl)) rfl rfl (Nat.le_of_ble_eq_true rfl) ⟨Nat.le_of_ble_eq_true rfl, Nat.le_of_ble_eq_true rfl⟩ rfl (fun q_5 => ?_)
    exact w_ireturn (v := q_5.1) hc hq dX7_member_17 rfl rfl rfl
set_option maxRecDepth 100000 in
set_option maxHeartbeats 4000000 in
theorem m_X7_followed {l : Launch} {K : KT} {R : MR} {rm : Nat} {a1 : Int64} {I : MI} {L : ML} (hK0 : K = lK rm) (hR0 : R = lR rm) : MFg l yX7_followed cX7_followed 5 (some .int) 3 78 [.ref 0, .long a1] K R I L anIW meW (f_X7_followed a1 I L) := by
  refine mf_of (plainFor_of_name (by decide)) (Nat.le_of_ble_eq_true rfl) ?_
  intro G hc _ hK1 hR1 hn hq
  have hK := hK1.trans hK0
  have hR := hR1.trans hR0
  have hN : ∀ i, Nat.blt i 5 = true → i < gnL G := fun i h => hn ▸ Nat.blt_eq.mp h
  unfold f_X7_followed
  show WW G 0 [(0, .ref 0), (1, .long a1)] [] I L _
  refine w_aload_n (q := 1) (i := 0) (j := 0) hc dX7_followed_0 rfl rfl rfl ?_
  refine w_lload_n (q := 2) (i := 1) (j := 1) hc dX7_followed_1 rfl rfl rfl ?_
  refine w_callV_Rl (q := 5) (st := []) (args := [.long a1]) (p := 0) hc (m_X7_read hK hR) dX7_followed_2 ml_X7_114 cf_X7_read iv_X7_read (k_0 hK) (C := RX7) (T := TX7) (N := 7) rfl rfl (Nat.lt_of_succ_le (Nat.le_of_ble_eq_true rfl)) rfl rfl (Nat.le_of_ble_eq_true rfl) ⟨Nat.le_of_ble_eq_true rfl, Nat.le_of_ble_eq_true rfl⟩ rfl (fun q_1 => ?_)
  refine w_lstore_n (q := 6) (i := 3) (lv' := [(3, .long q_1), (0, .ref 0), (1, .long a1)]) hc dX7_followed_5 rfl (hN 4 rfl) rfl rfl ?_
  refine w_lload_n (q := 7) (i := 3) (j := 0) hc dX7_followed_6 rfl rfl rfl ?_
  refine w_lconst (q := 8) hc dX7_followed_7 cl_0 rfl ?_
  refine w_lcmp (q := 9) hc dX7_followed_8  rfl ?_
  refine w_ifge (q := 12) (tgt := 18) hc dX7_followed_9 rfl rfl ?_ ?_
  · refine w_aload_n (q := 19) (i := 0) (j := 1) hc dX7_followed_18 rfl rfl rfl ?_
    refine w_aload_n (q := 20) (i := 0) (j := 1) hc dX7_followed_19 rfl rfl rfl ?_
    refine gf_X7_19 (q := 23) hc dX7_followed_20 (k_0 hK) (r_0_1 hR) rfl ?_
    refine gf_X7_163 (q := 26) hc dX7_followed_23 (k_6 hK) (r_6_3 hR) rfl ?_
    refine w_lload_n (q := 27) (i := 3) (j := 0) hc dX7_followed_26 rfl rfl rfl ?_
    refine w_callV_Ri (q := 30) (st := [.ref 0]) (args := [.long q_1]) (p := 8) hc (m_X0_follow hK hR (ch_8)) dX7_followed_27 ml_X7_184 cf_X0_follow iv_X0_follow (k_8 hK) (C := RX0) (T := TX0) (N := 8) rfl rfl (Nat.lt_of_succ_le (Nat.le_of_ble_eq_true rfl)) rfl rfl (Nat.le_of_ble_eq_true rfl) ⟨Nat.le_of_ble_eq_true rfl, Nat.le_of_ble_eq_true rfl⟩ rfl (fun q_2 => ?_)
    refine w_callV_Wi (q := 33) (st := []) (args := [.int q_2]) (p := 0) hc (m_X7_tell hK hR) dX7_followed_30 ml_X7_86 cf_X7_tell iv_X7_tell (k_0 hK) (C := RX7) (T := TX7) (N := 7) rfl rfl (Nat.lt_of_succ_le (Nat.le_of_ble_eq_true rfl)) rfl rfl (Nat.le_of_ble_eq_true rfl) ⟨Nat.le_of_ble_eq_true rfl, Nat.le_of_ble_eq_true rfl⟩ rfl (fun q_3 => ?_)
    exact w_ireturn (v := q_3.1) hc hq dX7_followed_33 rfl rfl rfl
  · refine w_aload_n (q := 13) (i := 0) (j := 1) hc dX7_followed_12 rfl rfl rfl ?_
    refine w_iconst (q := 14) hc dX7_followed_13 ci_1 rfl ?_
    refine w_callV_Wi (q := 17) (st := []) (args := [.int 1]) (p := 0) hc (m_X7_refuse hK hR) dX7_followed_14 ml_X7_56 cf_X7_refuse iv_X7_refuse (k_0 hK) (C := RX7) (T := TX7) (N := 7) rfl rfl (Nat.lt_of_succ_le (Nat.le_of_ble_eq_true rfl)) rfl rfl (Nat.le_of_ble_eq_true rfl) ⟨Nat.le_of_ble_eq_true rfl, Nat.le_of_ble_eq_true rfl⟩ rfl (fun q_4 => ?_)
    exact w_ireturn (v := q_4.1) hc hq dX7_followed_17 rfl rfl rfl
set_option maxRecDepth 100000 in
set_option maxHeartbeats 4000000 in
theorem m_X7_nth {l : Launch} {K : KT} {R : MR} {rm : Nat} {a1 : Int32} {I : MI} {L : ML} (hK0 : K = lK rm) (hR0 : R = lR rm) : MFg l yX7_nth cX7_nth 2 (some .long) 4 83 [.ref 0, .int a1] K R I L anLW meW (f_X7_nth a1 I L) := by
  refine mf_of (plainFor_of_name (by decide)) (Nat.le_of_ble_eq_true rfl) ?_
  intro G hc _ hK1 hR1 hn hq
  have hK := hK1.trans hK0
  have hR := hR1.trans hR0
  have hN : ∀ i, Nat.blt i 2 = true → i < gnL G := fun i h => hn ▸ Nat.blt_eq.mp h
  unfold f_X7_nth
  show WW G 0 [(0, .ref 0), (1, .int a1)] [] I L _
  refine w_iload_n (q := 1) (i := 1) (j := 1) hc dX7_nth_0 rfl rfl rfl ?_
  refine w_ifge (q := 4) (tgt := 11) hc dX7_nth_1 rfl rfl ?_ ?_
  · refine w_aload_n (q := 12) (i := 0) (j := 0) hc dX7_nth_11 rfl rfl rfl ?_
    refine gf_X7_19 (q := 15) hc dX7_nth_12 (k_0 hK) (r_0_1 hR) rfl ?_
    refine gf_X7_95 (q := 18) hc dX7_nth_15 (k_6 hK) rfl ?_
    refine w_ifeq (q := 21) (tgt := 32) hc dX7_nth_18 rfl rfl ?_ ?_
    · refine w_aload_n (q := 33) (i := 0) (j := 0) hc dX7_nth_32 rfl rfl rfl ?_
      refine w_iconst (q := 34) hc dX7_nth_33 ci_5 rfl ?_
      refine w_callV_Wi (q := 37) (st := []) (args := [.int 5]) (p := 0) hc (m_X7_refuse hK hR) dX7_nth_34 ml_X7_56 cf_X7_refuse iv_X7_refuse (k_0 hK) (C := RX7) (T := TX7) (N := 7) rfl rfl (Nat.lt_of_succ_le (Nat.le_of_ble_eq_true rfl)) rfl rfl (Nat.le_of_ble_eq_true rfl) ⟨Nat.le_of_ble_eq_true rfl, Nat.le_of_ble_eq_true rfl⟩ rfl (fun q_1 => ?_)
      refine w_i2l (q := 38) hc dX7_nth_37  rfl ?_
      exact w_lreturn hc hq dX7_nth_38 rfl rfl
    · refine w_iload_n (q := 22) (i := 1) (j := 1) hc dX7_nth_21 rfl rfl rfl ?_
      refine w_aload_n (q := 23) (i := 0) (j := 0) hc dX7_nth_22 rfl rfl rfl ?_
      refine gf_X7_19 (q := 26) hc dX7_nth_23 (k_0 hK) (r_0_1 hR) rfl ?_
      refine w_callV_Ri (q := 29) (st := [.int a1]) (args := []) (p := 6) hc (m_X2_size hK hR) dX7_nth_26 ml_X7_178 cf_X2_size iv_X2_size (k_6 hK) (C := RX2) (T := TX2) (N := 13) rfl rfl (Nat.lt_of_succ_le (Nat.le_of_ble_eq_true rfl)) rfl rfl (Nat.le_of_ble_eq_true rfl) ⟨Nat.le_of_ble_eq_true rfl, Nat.le_of_ble_eq_true rfl⟩ rfl (fun q_2 => ?_)
      refine w_icmplt (q := 32) (tgt := 39) hc dX7_nth_29 rfl rfl ?_ ?_
      · refine w_aload_n (q := 40) (i := 0) (j := 0) hc dX7_nth_39 rfl rfl rfl ?_
        refine w_aload_n (q := 41) (i := 0) (j := 0) hc dX7_nth_40 rfl rfl rfl ?_
        refine gf_X7_19 (q := 44) hc dX7_nth_41 (k_0 hK) (r_0_1 hR) rfl ?_
        refine gf_X7_163 (q := 47) hc dX7_nth_44 (k_6 hK) (r_6_3 hR) rfl ?_
        refine w_iload_n (q := 48) (i := 1) (j := 1) hc dX7_nth_47 rfl rfl rfl ?_
        refine w_callV_Rl (q := 51) (st := [.ref 0]) (args := [.int a1]) (p := 8) hc (m_X0_pick hK hR (ch_8)) dX7_nth_48 ml_X7_187 cf_X0_pick iv_X0_pick (k_8 hK) (C := RX0) (T := TX0) (N := 8) rfl rfl (Nat.lt_of_succ_le (Nat.le_of_ble_eq_true rfl)) rfl rfl (Nat.le_of_ble_eq_true rfl) ⟨Nat.le_of_ble_eq_true rfl, Nat.le_of_ble_eq_true rfl⟩ rfl (fun q_3 => ?_)
        refine w_callV_Wl (q := 54) (st := []) (args := [.long q_3]) (p := 0) hc (m_X7_tellTurn hK hR) dX7_nth_51 ml_X7_110 cf_X7_tellTurn iv_X7_tellTurn (k_0 hK) (C := RX7) (T := TX7) (N := 7) rfl rfl (Nat.lt_of_succ_le (Nat.le_of_ble_eq_true rfl)) rfl rfl (Nat.le_of_ble_eq_true rfl) ⟨Nat.le_of_ble_eq_true rfl, Nat.le_of_ble_eq_true rfl⟩ rfl (fun q_4 => ?_)
        exact w_lreturn hc hq dX7_nth_54 rfl rfl
      · refine w_aload_n (q := 33) (i := 0) (j := 0) hc dX7_nth_32 rfl rfl rfl ?_
        refine w_iconst (q := 34) hc dX7_nth_33 ci_5 rfl ?_
        refine w_callV_Wi (q := 37) (st := []) (args := [.int 5]) (p := 0) hc (m_X7_refuse hK hR) dX7_nth_34 ml_X7_56 cf_X7_refuse iv_X7_refuse (k_0 hK) (C := RX7) (T := TX7) (N := 7) rfl rfl (Nat.lt_of_succ_le (Nat.le_of_ble_eq_true rfl)) rfl rfl (Nat.le_of_ble_eq_true rfl) ⟨Nat.le_of_ble_eq_true rfl, Nat.le_of_ble_eq_true rfl⟩ rfl (fun q_5 => ?_)
        refine w_i2l (q := 38) hc dX7_nth_37  rfl ?_
        exact w_lreturn hc hq dX7_nth_38 rfl rfl
  · refine w_aload_n (q := 5) (i := 0) (j := 0) hc dX7_nth_4 rfl rfl rfl ?_
    refine w_iconst (q := 6) hc dX7_nth_5 ci_1 rfl ?_
    refine w_callV_Wi (q := 9) (st := []) (args := [.int 1]) (p := 0) hc (m_X7_refuse hK hR) dX7_nth_6 ml_X7_56 cf_X7_refuse iv_X7_refuse (k_0 hK) (C := RX7) (T := TX7) (N := 7) rfl rfl (Nat.lt_of_succ_le (Nat.le_of_ble_eq_true rfl)) rfl rfl (Nat.le_of_ble_eq_true rfl) ⟨Nat.le_of_ble_eq_true rfl, Nat.le_of_ble_eq_true rfl⟩ rfl (fun q_6 => ?_)
    refine w_i2l (q := 10) hc dX7_nth_9  rfl ?_
    exact w_lreturn hc hq dX7_nth_10 rfl rfl
set_option maxRecDepth 100000 in
set_option maxHeartbeats 4000000 in
theorem m_X7_rank {l : Launch} {K : KT} {R : MR} {rm : Nat} {a1 : Int64} {I : MI} {L : ML} (hK0 : K = lK rm) (hR0 : R = lR rm) : MFg l yX7_rank cX7_rank 6 (some .int) 3 78 [.ref 0, .long a1] K R I L anIW meW (f_X7_rank a1 I L) := by
  refine mf_of (plainFor_of_name (by decide)) (Nat.le_of_ble_eq_true rfl) ?_
  intro G hc _ hK1 hR1 hn hq
  have hK := hK1.trans hK0
  have hR := hR1.trans hR0
  have hN : ∀ i, Nat.blt i 6 = true → i < gnL G := fun i h => hn ▸ Nat.blt_eq.mp h
  unfold f_X7_rank
  show WW G 0 [(0, .ref 0), (1, .long a1)] [] I L _
  refine w_aload_n (q := 1) (i := 0) (j := 0) hc dX7_rank_0 rfl rfl rfl ?_
  refine w_lload_n (q := 2) (i := 1) (j := 1) hc dX7_rank_1 rfl rfl rfl ?_
  refine w_callV_Rl (q := 5) (st := []) (args := [.long a1]) (p := 0) hc (m_X7_read hK hR) dX7_rank_2 ml_X7_114 cf_X7_read iv_X7_read (k_0 hK) (C := RX7) (T := TX7) (N := 7) rfl rfl (Nat.lt_of_succ_le (Nat.le_of_ble_eq_true rfl)) rfl rfl (Nat.le_of_ble_eq_true rfl) ⟨Nat.le_of_ble_eq_true rfl, Nat.le_of_ble_eq_true rfl⟩ rfl (fun q_1 => ?_)
  refine w_lstore_n (q := 6) (i := 3) (lv' := [(3, .long q_1), (0, .ref 0), (1, .long a1)]) hc dX7_rank_5 rfl (hN 4 rfl) rfl rfl ?_
  refine w_lload_n (q := 7) (i := 3) (j := 0) hc dX7_rank_6 rfl rfl rfl ?_
  refine w_lconst (q := 8) hc dX7_rank_7 cl_0 rfl ?_
  refine w_lcmp (q := 9) hc dX7_rank_8  rfl ?_
  refine w_ifge (q := 12) (tgt := 18) hc dX7_rank_9 rfl rfl ?_ ?_
  · refine w_aload_n (q := 19) (i := 0) (j := 1) hc dX7_rank_18 rfl rfl rfl ?_
    refine gf_X7_19 (q := 22) hc dX7_rank_19 (k_0 hK) (r_0_1 hR) rfl ?_
    refine gf_X7_163 (q := 25) hc dX7_rank_22 (k_6 hK) (r_6_3 hR) rfl ?_
    refine w_lload_n (q := 26) (i := 3) (j := 0) hc dX7_rank_25 rfl rfl rfl ?_
    refine w_callV_Ri (q := 29) (st := []) (args := [.long q_1]) (p := 8) hc (m_X0_placeOf hK hR (ch_8)) dX7_rank_26 ml_X7_190 cf_X0_placeOf iv_X0_placeOf (k_8 hK) (C := RX0) (T := TX0) (N := 8) rfl rfl (Nat.lt_of_succ_le (Nat.le_of_ble_eq_true rfl)) rfl rfl (Nat.le_of_ble_eq_true rfl) ⟨Nat.le_of_ble_eq_true rfl, Nat.le_of_ble_eq_true rfl⟩ rfl (fun q_2 => ?_)
    refine w_istore (q := 31) (i := 5) (lv' := [(5, .int q_2), (3, .long q_1), (0, .ref 0), (1, .long a1)]) hc dX7_rank_29 (hN 5 rfl) rfl rfl ?_
    refine w_iload (q := 33) (i := 5) (j := 0) hc dX7_rank_31 rfl rfl ?_
    refine w_ifge (q := 36) (tgt := 45) hc dX7_rank_33 rfl rfl ?_ ?_
    · refine w_aload_n (q := 46) (i := 0) (j := 2) hc dX7_rank_45 rfl rfl rfl ?_
      refine w_iload (q := 48) (i := 5) (j := 0) hc dX7_rank_46 rfl rfl ?_
      refine w_callV_Wi (q := 51) (st := []) (args := [.int q_2]) (p := 0) hc (m_X7_tell hK hR) dX7_rank_48 ml_X7_86 cf_X7_tell iv_X7_tell (k_0 hK) (C := RX7) (T := TX7) (N := 7) rfl rfl (Nat.lt_of_succ_le (Nat.le_of_ble_eq_true rfl)) rfl rfl (Nat.le_of_ble_eq_true rfl) ⟨Nat.le_of_ble_eq_true rfl, Nat.le_of_ble_eq_true rfl⟩ rfl (fun q_3 => ?_)
      exact w_ireturn (v := q_3.1) hc hq dX7_rank_51 rfl rfl rfl
    · refine w_aload_n (q := 37) (i := 0) (j := 2) hc dX7_rank_36 rfl rfl rfl ?_
      refine w_bipush (q := 39) hc dX7_rank_37 cb_6 rfl ?_
      refine w_callV_Wi (q := 42) (st := []) (args := [.int 6]) (p := 0) hc (m_X7_refuse hK hR) dX7_rank_39 ml_X7_56 cf_X7_refuse iv_X7_refuse (k_0 hK) (C := RX7) (T := TX7) (N := 7) rfl rfl (Nat.lt_of_succ_le (Nat.le_of_ble_eq_true rfl)) rfl rfl (Nat.le_of_ble_eq_true rfl) ⟨Nat.le_of_ble_eq_true rfl, Nat.le_of_ble_eq_true rfl⟩ rfl (fun q_4 => ?_)
      refine w_goto (tgt := 51) hc dX7_rank_42 rfl ?_
      exact w_ireturn (v := q_4.1) hc hq dX7_rank_51 rfl rfl rfl
  · refine w_aload_n (q := 13) (i := 0) (j := 1) hc dX7_rank_12 rfl rfl rfl ?_
    refine w_iconst (q := 14) hc dX7_rank_13 ci_1 rfl ?_
    refine w_callV_Wi (q := 17) (st := []) (args := [.int 1]) (p := 0) hc (m_X7_refuse hK hR) dX7_rank_14 ml_X7_56 cf_X7_refuse iv_X7_refuse (k_0 hK) (C := RX7) (T := TX7) (N := 7) rfl rfl (Nat.lt_of_succ_le (Nat.le_of_ble_eq_true rfl)) rfl rfl (Nat.le_of_ble_eq_true rfl) ⟨Nat.le_of_ble_eq_true rfl, Nat.le_of_ble_eq_true rfl⟩ rfl (fun q_5 => ?_)
    exact w_ireturn (v := q_5.1) hc hq dX7_rank_17 rfl rfl rfl
set_option maxRecDepth 100000 in
set_option maxHeartbeats 4000000 in
theorem m_X7_hurdle {l : Launch} {K : KT} {R : MR} {rm : Nat} {I : MI} {L : ML} (hK0 : K = lK rm) (hR0 : R = lR rm) : MFg l yX7_hurdle cX7_hurdle 1 (some .int) 4 83 [.ref 0] K R I L anI (meR I L) (f_X7_hurdle I L) := by
  refine mf_of (plainFor_of_name (by decide)) (Nat.le_of_ble_eq_true rfl) ?_
  intro G hc _ hK1 hR1 hn hq
  have hK := hK1.trans hK0
  have hR := hR1.trans hR0
  have hN : ∀ i, Nat.blt i 1 = true → i < gnL G := fun i h => hn ▸ Nat.blt_eq.mp h
  unfold f_X7_hurdle
  show WW G 0 [(0, .ref 0)] [] I L _
  refine w_aload_n (q := 1) (i := 0) (j := 0) hc dX7_hurdle_0 rfl rfl rfl ?_
  refine gf_X7_19 (q := 4) hc dX7_hurdle_1 (k_0 hK) (r_0_1 hR) rfl ?_
  refine gf_X7_95 (q := 7) hc dX7_hurdle_4 (k_6 hK) rfl ?_
  refine w_ifne (q := 10) (tgt := 12) hc dX7_hurdle_7 rfl rfl ?_ ?_
  · refine w_iconst (q := 11) hc dX7_hurdle_10 ci_5 rfl ?_
    exact w_ireturn (v := 5) hc hq dX7_hurdle_11 rfl rfl rfl
  · refine w_aload_n (q := 13) (i := 0) (j := 0) hc dX7_hurdle_12 rfl rfl rfl ?_
    refine gf_X7_19 (q := 16) hc dX7_hurdle_13 (k_0 hK) (r_0_1 hR) rfl ?_
    refine w_callV_Ri (q := 19) (st := []) (args := []) (p := 6) hc (m_X2_size hK hR) dX7_hurdle_16 ml_X7_178 cf_X2_size iv_X2_size (k_6 hK) (C := RX2) (T := TX2) (N := 13) rfl rfl (Nat.lt_of_succ_le (Nat.le_of_ble_eq_true rfl)) rfl rfl (Nat.le_of_ble_eq_true rfl) ⟨Nat.le_of_ble_eq_true rfl, Nat.le_of_ble_eq_true rfl⟩ rfl (fun q_1 => ?_)
    refine w_sipush (q := 22) hc dX7_hurdle_19 cs_5040 rfl ?_
    refine w_icmple (q := 25) (tgt := 29) hc dX7_hurdle_22 rfl rfl ?_ ?_
    · refine w_iconst (q := 30) hc dX7_hurdle_29 ci_0 rfl ?_
      exact w_ireturn (v := 0) hc hq dX7_hurdle_30 rfl rfl rfl
    · refine w_iconst (q := 26) hc dX7_hurdle_25 ci_3 rfl ?_
      refine w_goto (tgt := 30) hc dX7_hurdle_26 rfl ?_
      exact w_ireturn (v := 3) hc hq dX7_hurdle_30 rfl rfl rfl
set_option maxRecDepth 100000 in
set_option maxHeartbeats 4000000 in
theorem m_X7_derived {l : Launch} {K : KT} {R : MR} {rm : Nat} {a1 : Int32} {I : MI} {L : ML} (hK0 : K = lK rm) (hR0 : R = lR rm) : MFg l yX7_derived cX7_derived 3 (some .int) 7 187 [.ref 0, .int a1] K R I L anIW meW (f_X7_derived a1 I L) := by
  refine mf_of (plainFor_of_name (by decide)) (Nat.le_of_ble_eq_true rfl) ?_
  intro G hc _ hK1 hR1 hn hq
  have hK := hK1.trans hK0
  have hR := hR1.trans hR0
  have hN : ∀ i, Nat.blt i 3 = true → i < gnL G := fun i h => hn ▸ Nat.blt_eq.mp h
  unfold f_X7_derived
  show WW G 0 [(0, .ref 0), (1, .int a1)] [] I L _
  refine w_iload_n (q := 1) (i := 1) (j := 1) hc dX7_derived_0 rfl rfl rfl ?_
  refine w_ifge (q := 4) (tgt := 10) hc dX7_derived_1 rfl rfl ?_ ?_
  · refine w_aload_n (q := 11) (i := 0) (j := 0) hc dX7_derived_10 rfl rfl rfl ?_
    refine gf_X7_19 (q := 14) hc dX7_derived_11 (k_0 hK) (r_0_1 hR) rfl ?_
    refine gf_X7_95 (q := 17) hc dX7_derived_14 (k_6 hK) rfl ?_
    refine w_ifne (q := 20) (tgt := 26) hc dX7_derived_17 rfl rfl ?_ ?_
    · refine w_aload_n (q := 21) (i := 0) (j := 0) hc dX7_derived_20 rfl rfl rfl ?_
      refine w_iconst (q := 22) hc dX7_derived_21 ci_5 rfl ?_
      refine w_callV_Wi (q := 25) (st := []) (args := [.int 5]) (p := 0) hc (m_X7_refuse hK hR) dX7_derived_22 ml_X7_56 cf_X7_refuse iv_X7_refuse (k_0 hK) (C := RX7) (T := TX7) (N := 7) rfl rfl (Nat.lt_of_succ_le (Nat.le_of_ble_eq_true rfl)) rfl rfl (Nat.le_of_ble_eq_true rfl) ⟨Nat.le_of_ble_eq_true rfl, Nat.le_of_ble_eq_true rfl⟩ rfl (fun q_5 => ?_)
      exact w_ireturn (v := q_5.1) hc hq dX7_derived_25 rfl rfl rfl
    · refine w_aload_n (q := 27) (i := 0) (j := 0) hc dX7_derived_26 rfl rfl rfl ?_
      refine gf_X7_19 (q := 30) hc dX7_derived_27 (k_0 hK) (r_0_1 hR) rfl ?_
      refine w_iconst (q := 31) hc dX7_derived_30 ci_0 rfl ?_
      refine w_callV_Wr (q := 34) (st := []) (args := [.int 0]) (p := 6) hc (m_X2_descentByF hK hR) dX7_derived_31 ml_X7_245 cf_X2_descentBy iv_X2_descentBy (k_6 hK) (C := RX2) (T := TX2) (N := 13) rfl rfl (Nat.lt_of_succ_le (Nat.le_of_ble_eq_true rfl)) rfl rfl (Nat.le_of_ble_eq_true rfl) ⟨Nat.le_of_ble_eq_true rfl, Nat.le_of_ble_eq_true rfl⟩ rfl (fun q_1 => ?_)
      refine w_iload_n (q := 35) (i := 1) (j := 1) hc dX7_derived_34 rfl rfl rfl ?_
      refine w_callV_Ri (q := 38) (st := []) (args := [.int a1]) (p := 30) hc (m_X1_sizeAt hK hR (de_30)) dX7_derived_35 ml_X7_249 cf_X1_sizeAt iv_X1_sizeAt (k_30 hK) (C := RX1) (T := TX1) (N := 5) rfl rfl (Nat.lt_of_succ_le (Nat.le_of_ble_eq_true rfl)) rfl rfl (Nat.le_of_ble_eq_true rfl) ⟨Nat.le_of_ble_eq_true rfl, Nat.le_of_ble_eq_true rfl⟩ rfl (fun q_2 => ?_)
      refine w_istore_n (q := 39) (i := 2) (lv' := [(2, .int q_2), (0, .ref 0), (1, .int a1)]) hc dX7_derived_38 rfl (hN 2 rfl) rfl rfl ?_
      refine w_iload_n (q := 40) (i := 2) (j := 0) hc dX7_derived_39 rfl rfl rfl ?_
      refine w_ifne (q := 43) (tgt := 51) hc dX7_derived_40 rfl rfl ?_ ?_
      · refine w_aload_n (q := 44) (i := 0) (j := 1) hc dX7_derived_43 rfl rfl rfl ?_
        refine w_iconst (q := 45) hc dX7_derived_44 ci_5 rfl ?_
        refine w_callV_Wi (q := 48) (st := []) (args := [.int 5]) (p := 0) hc (m_X7_refuse hK hR) dX7_derived_45 ml_X7_56 cf_X7_refuse iv_X7_refuse (k_0 hK) (C := RX7) (T := TX7) (N := 7) rfl rfl (Nat.lt_of_succ_le (Nat.le_of_ble_eq_true rfl)) rfl rfl (Nat.le_of_ble_eq_true rfl) ⟨Nat.le_of_ble_eq_true rfl, Nat.le_of_ble_eq_true rfl⟩ rfl (fun q_4 => ?_)
        refine w_goto (tgt := 56) hc dX7_derived_48 rfl ?_
        exact w_ireturn (v := q_4.1) hc hq dX7_derived_56 rfl rfl rfl
      · refine w_aload_n (q := 52) (i := 0) (j := 1) hc dX7_derived_51 rfl rfl rfl ?_
        refine w_iload_n (q := 53) (i := 2) (j := 0) hc dX7_derived_52 rfl rfl rfl ?_
        refine w_callV_Wi (q := 56) (st := []) (args := [.int q_2]) (p := 0) hc (m_X7_tell hK hR) dX7_derived_53 ml_X7_86 cf_X7_tell iv_X7_tell (k_0 hK) (C := RX7) (T := TX7) (N := 7) rfl rfl (Nat.lt_of_succ_le (Nat.le_of_ble_eq_true rfl)) rfl rfl (Nat.le_of_ble_eq_true rfl) ⟨Nat.le_of_ble_eq_true rfl, Nat.le_of_ble_eq_true rfl⟩ rfl (fun q_3 => ?_)
        exact w_ireturn (v := q_3.1) hc hq dX7_derived_56 rfl rfl rfl
  · refine w_aload_n (q := 5) (i := 0) (j := 0) hc dX7_derived_4 rfl rfl rfl ?_
    refine w_iconst (q := 6) hc dX7_derived_5 ci_1 rfl ?_
    refine w_callV_Wi (q := 9) (st := []) (args := [.int 1]) (p := 0) hc (m_X7_refuse hK hR) dX7_derived_6 ml_X7_56 cf_X7_refuse iv_X7_refuse (k_0 hK) (C := RX7) (T := TX7) (N := 7) rfl rfl (Nat.lt_of_succ_le (Nat.le_of_ble_eq_true rfl)) rfl rfl (Nat.le_of_ble_eq_true rfl) ⟨Nat.le_of_ble_eq_true rfl, Nat.le_of_ble_eq_true rfl⟩ rfl (fun q_6 => ?_)
    exact w_ireturn (v := q_6.1) hc hq dX7_derived_9 rfl rfl rfl
set_option maxRecDepth 100000 in
set_option maxHeartbeats 4000000 in
theorem m_X7_has {l : Launch} {K : KT} {R : MR} {rm : Nat} {a1 : Int32} {I : MI} {L : ML} (hK0 : K = lK rm) (hR0 : R = lR rm) : MFg l yX7_has cX7_has 3 (some .int) 7 187 [.ref 0, .int a1] K R I L anIW meW (f_X7_has a1 I L) := by
  refine mf_of (plainFor_of_name (by decide)) (Nat.le_of_ble_eq_true rfl) ?_
  intro G hc _ hK1 hR1 hn hq
  have hK := hK1.trans hK0
  have hR := hR1.trans hR0
  have hN : ∀ i, Nat.blt i 3 = true → i < gnL G := fun i h => hn ▸ Nat.blt_eq.mp h
  unfold f_X7_has
  show WW G 0 [(0, .ref 0), (1, .int a1)] [] I L _
  refine w_iload_n (q := 1) (i := 1) (j := 1) hc dX7_has_0 rfl rfl rfl ?_
  refine w_iflt (q := 4) (tgt := 9) hc dX7_has_1 rfl rfl ?_ ?_
  · refine w_aload_n (q := 10) (i := 0) (j := 0) hc dX7_has_9 rfl rfl rfl ?_
    refine w_iconst (q := 11) hc dX7_has_10 ci_1 rfl ?_
    refine w_callV_Wi (q := 14) (st := []) (args := [.int 1]) (p := 0) hc (m_X7_refuse hK hR) dX7_has_11 ml_X7_56 cf_X7_refuse iv_X7_refuse (k_0 hK) (C := RX7) (T := TX7) (N := 7) rfl rfl (Nat.lt_of_succ_le (Nat.le_of_ble_eq_true rfl)) rfl rfl (Nat.le_of_ble_eq_true rfl) ⟨Nat.le_of_ble_eq_true rfl, Nat.le_of_ble_eq_true rfl⟩ rfl (fun q_1 => ?_)
    exact w_ireturn (v := q_1.1) hc hq dX7_has_14 rfl rfl rfl
  · refine w_iload_n (q := 5) (i := 1) (j := 1) hc dX7_has_4 rfl rfl rfl ?_
    refine w_iconst (q := 6) hc dX7_has_5 ci_3 rfl ?_
    refine w_icmple (q := 9) (tgt := 15) hc dX7_has_6 rfl rfl ?_ ?_
    · refine w_aload_n (q := 16) (i := 0) (j := 0) hc dX7_has_15 rfl rfl rfl ?_
      refine gf_X7_19 (q := 19) hc dX7_has_16 (k_0 hK) (r_0_1 hR) rfl ?_
      refine gf_X7_95 (q := 22) hc dX7_has_19 (k_6 hK) rfl ?_
      refine w_ifne (q := 25) (tgt := 31) hc dX7_has_22 rfl rfl ?_ ?_
      · refine w_aload_n (q := 26) (i := 0) (j := 0) hc dX7_has_25 rfl rfl rfl ?_
        refine w_iconst (q := 27) hc dX7_has_26 ci_5 rfl ?_
        refine w_callV_Wi (q := 30) (st := []) (args := [.int 5]) (p := 0) hc (m_X7_refuse hK hR) dX7_has_27 ml_X7_56 cf_X7_refuse iv_X7_refuse (k_0 hK) (C := RX7) (T := TX7) (N := 7) rfl rfl (Nat.lt_of_succ_le (Nat.le_of_ble_eq_true rfl)) rfl rfl (Nat.le_of_ble_eq_true rfl) ⟨Nat.le_of_ble_eq_true rfl, Nat.le_of_ble_eq_true rfl⟩ rfl (fun q_19 => ?_)
        exact w_ireturn (v := q_19.1) hc hq dX7_has_30 rfl rfl rfl
      · refine w_iload_n (q := 32) (i := 1) (j := 1) hc dX7_has_31 rfl rfl rfl ?_
        refine w_ifne (q := 35) (tgt := 46) hc dX7_has_32 rfl rfl ?_ ?_
        · refine w_aload_n (q := 36) (i := 0) (j := 0) hc dX7_has_35 rfl rfl rfl ?_
          refine gf_X7_19 (q := 39) hc dX7_has_36 (k_0 hK) (r_0_1 hR) rfl ?_
          refine w_callV_Rz (q := 42) (st := []) (args := []) (p := 6) hc (m_X2_movesCommute hK hR) dX7_has_39 ml_X7_254 cf_X2_movesCommute iv_X2_movesCommute (k_6 hK) (C := RX2) (T := TX2) (N := 13) rfl rfl (Nat.lt_of_succ_le (Nat.le_of_ble_eq_true rfl)) rfl rfl (Nat.le_of_ble_eq_true rfl) ⟨Nat.le_of_ble_eq_true rfl, Nat.le_of_ble_eq_true rfl⟩ rfl (fun q_15 => ?_)
          refine w_istore_nB (q := 43) (i := 2) (lv' := fun v2_16 => [(2, .int v2_16), (0, .ref 0), (1, .int a1)]) hc dX7_has_42 rfl (hN 2 rfl) (fun _ => rfl) rfl (fun v2_16 => ?_)
          refine w_goto (tgt := 90) hc dX7_has_43 rfl ?_
          refine w_aload_n (q := 91) (i := 0) (j := 1) hc dX7_has_90 rfl rfl rfl ?_
          refine w_iload_n (q := 92) (i := 2) (j := 0) hc dX7_has_91 rfl rfl rfl ?_
          refine w_ifeq (q := 95) (tgt := 99) hc dX7_has_92 rfl rfl ?_ ?_
          · refine w_iconst (q := 100) hc dX7_has_99 ci_0 rfl ?_
            refine w_callV_Wi (q := 103) (st := []) (args := [.int 0]) (p := 0) hc (m_X7_tell hK hR) dX7_has_100 ml_X7_86 cf_X7_tell iv_X7_tell (k_0 hK) (C := RX7) (T := TX7) (N := 7) rfl rfl (Nat.lt_of_succ_le (Nat.le_of_ble_eq_true rfl)) rfl rfl (Nat.le_of_ble_eq_true rfl) ⟨Nat.le_of_ble_eq_true rfl, Nat.le_of_ble_eq_true rfl⟩ rfl (fun q_17 => ?_)
            exact w_ireturn (v := q_17.1) hc hq dX7_has_103 rfl rfl rfl
          · refine w_iconst (q := 96) hc dX7_has_95 ci_1 rfl ?_
            refine w_goto (tgt := 100) hc dX7_has_96 rfl ?_
            refine w_callV_Wi (q := 103) (st := []) (args := [.int 1]) (p := 0) hc (m_X7_tell hK hR) dX7_has_100 ml_X7_86 cf_X7_tell iv_X7_tell (k_0 hK) (C := RX7) (T := TX7) (N := 7) rfl rfl (Nat.lt_of_succ_le (Nat.le_of_ble_eq_true rfl)) rfl rfl (Nat.le_of_ble_eq_true rfl) ⟨Nat.le_of_ble_eq_true rfl, Nat.le_of_ble_eq_true rfl⟩ rfl (fun q_18 => ?_)
            exact w_ireturn (v := q_18.1) hc hq dX7_has_103 rfl rfl rfl
        · refine w_iload_n (q := 47) (i := 1) (j := 1) hc dX7_has_46 rfl rfl rfl ?_
          refine w_iconst (q := 48) hc dX7_has_47 ci_1 rfl ?_
          refine w_icmpne (q := 51) (tgt := 66) hc dX7_has_48 rfl rfl ?_ ?_
          · refine w_aload_n (q := 52) (i := 0) (j := 0) hc dX7_has_51 rfl rfl rfl ?_
            refine gf_X7_19 (q := 55) hc dX7_has_52 (k_0 hK) (r_0_1 hR) rfl ?_
            refine w_iconst (q := 56) hc dX7_has_55 ci_0 rfl ?_
            refine w_callV_Wr (q := 59) (st := []) (args := [.int 0]) (p := 6) hc (m_X2_descentByF hK hR) dX7_has_56 ml_X7_245 cf_X2_descentBy iv_X2_descentBy (k_6 hK) (C := RX2) (T := TX2) (N := 13) rfl rfl (Nat.lt_of_succ_le (Nat.le_of_ble_eq_true rfl)) rfl rfl (Nat.le_of_ble_eq_true rfl) ⟨Nat.le_of_ble_eq_true rfl, Nat.le_of_ble_eq_true rfl⟩ rfl (fun q_10 => ?_)
            refine w_callV_Rz (q := 62) (st := []) (args := []) (p := 30) hc (m_X1_endsAtHome hK hR (de_30)) dX7_has_59 ml_X7_258 cf_X1_endsAtHome iv_X1_endsAtHome (k_30 hK) (C := RX1) (T := TX1) (N := 5) rfl rfl (Nat.lt_of_succ_le (Nat.le_of_ble_eq_true rfl)) rfl rfl (Nat.le_of_ble_eq_true rfl) ⟨Nat.le_of_ble_eq_true rfl, Nat.le_of_ble_eq_true rfl⟩ rfl (fun q_11 => ?_)
            refine w_istore_nB (q := 63) (i := 2) (lv' := fun v2_12 => [(2, .int v2_12), (0, .ref 0), (1, .int a1)]) hc dX7_has_62 rfl (hN 2 rfl) (fun _ => rfl) rfl (fun v2_12 => ?_)
            refine w_goto (tgt := 90) hc dX7_has_63 rfl ?_
            refine w_aload_n (q := 91) (i := 0) (j := 1) hc dX7_has_90 rfl rfl rfl ?_
            refine w_iload_n (q := 92) (i := 2) (j := 0) hc dX7_has_91 rfl rfl rfl ?_
            refine w_ifeq (q := 95) (tgt := 99) hc dX7_has_92 rfl rfl ?_ ?_
            · refine w_iconst (q := 100) hc dX7_has_99 ci_0 rfl ?_
              refine w_callV_Wi (q := 103) (st := []) (args := [.int 0]) (p := 0) hc (m_X7_tell hK hR) dX7_has_100 ml_X7_86 cf_X7_tell iv_X7_tell (k_0 hK) (C := RX7) (T := TX7) (N := 7) rfl rfl (Nat.lt_of_succ_le (Nat.le_of_ble_eq_true rfl)) rfl rfl (Nat.le_of_ble_eq_true rfl) ⟨Nat.le_of_ble_eq_true rfl, Nat.le_of_ble_eq_true rfl⟩ rfl (fun q_13 => ?_)
              exact w_ireturn (v := q_13.1) hc hq dX7_has_103 rfl rfl rfl
            · refine w_iconst (q := 96) hc dX7_has_95 ci_1 rfl ?_
              refine w_goto (tgt := 100) hc dX7_has_96 rfl ?_
              refine w_callV_Wi (q := 103) (st := []) (args := [.int 1]) (p := 0) hc (m_X7_tell hK hR) dX7_has_100 ml_X7_86 cf_X7_tell iv_X7_tell (k_0 hK) (C := RX7) (T := TX7) (N := 7) rfl rfl (Nat.lt_of_succ_le (Nat.le_of_ble_eq_true rfl)) rfl rfl (Nat.le_of_ble_eq_true rfl) ⟨Nat.le_of_ble_eq_true rfl, Nat.le_of_ble_eq_true rfl⟩ rfl (fun q_14 => ?_)
              exact w_ireturn (v := q_14.1) hc hq dX7_has_103 rfl rfl rfl
          · refine w_iload_n (q := 67) (i := 1) (j := 1) hc dX7_has_66 rfl rfl rfl ?_
            refine w_iconst (q := 68) hc dX7_has_67 ci_2 rfl ?_
            refine w_icmpne (q := 71) (tgt := 82) hc dX7_has_68 rfl rfl ?_ ?_
            · refine w_aload_n (q := 72) (i := 0) (j := 0) hc dX7_has_71 rfl rfl rfl ?_
              refine gf_X7_19 (q := 75) hc dX7_has_72 (k_0 hK) (r_0_1 hR) rfl ?_
              refine w_callV_Rz (q := 78) (st := []) (args := []) (p := 6) hc (m_X2_movesAreEven hK hR) dX7_has_75 ml_X7_261 cf_X2_movesAreEven iv_X2_movesAreEven (k_6 hK) (C := RX2) (T := TX2) (N := 13) rfl rfl (Nat.lt_of_succ_le (Nat.le_of_ble_eq_true rfl)) rfl rfl (Nat.le_of_ble_eq_true rfl) ⟨Nat.le_of_ble_eq_true rfl, Nat.le_of_ble_eq_true rfl⟩ rfl (fun q_6 => ?_)
              refine w_istore_nB (q := 79) (i := 2) (lv' := fun v2_7 => [(2, .int v2_7), (0, .ref 0), (1, .int a1)]) hc dX7_has_78 rfl (hN 2 rfl) (fun _ => rfl) rfl (fun v2_7 => ?_)
              refine w_goto (tgt := 90) hc dX7_has_79 rfl ?_
              refine w_aload_n (q := 91) (i := 0) (j := 1) hc dX7_has_90 rfl rfl rfl ?_
              refine w_iload_n (q := 92) (i := 2) (j := 0) hc dX7_has_91 rfl rfl rfl ?_
              refine w_ifeq (q := 95) (tgt := 99) hc dX7_has_92 rfl rfl ?_ ?_
              · refine w_iconst (q := 100) hc dX7_has_99 ci_0 rfl ?_
                refine w_callV_Wi (q := 103) (st := []) (args := [.int 0]) (p := 0) hc (m_X7_tell hK hR) dX7_has_100 ml_X7_86 cf_X7_tell iv_X7_tell (k_0 hK) (C := RX7) (T := TX7) (N := 7) rfl rfl (Nat.lt_of_succ_le (Nat.le_of_ble_eq_true rfl)) rfl rfl (Nat.le_of_ble_eq_true rfl) ⟨Nat.le_of_ble_eq_true rfl, Nat.le_of_ble_eq_true rfl⟩ rfl (fun q_8 => ?_)
                exact w_ireturn (v := q_8.1) hc hq dX7_has_103 rfl rfl rfl
              · refine w_iconst (q := 96) hc dX7_has_95 ci_1 rfl ?_
                refine w_goto (tgt := 100) hc dX7_has_96 rfl ?_
                refine w_callV_Wi (q := 103) (st := []) (args := [.int 1]) (p := 0) hc (m_X7_tell hK hR) dX7_has_100 ml_X7_86 cf_X7_tell iv_X7_tell (k_0 hK) (C := RX7) (T := TX7) (N := 7) rfl rfl (Nat.lt_of_succ_le (Nat.le_of_ble_eq_true rfl)) rfl rfl (Nat.le_of_ble_eq_true rfl) ⟨Nat.le_of_ble_eq_true rfl, Nat.le_of_ble_eq_true rfl⟩ rfl (fun q_9 => ?_)
                exact w_ireturn (v := q_9.1) hc hq dX7_has_103 rfl rfl rfl
            · refine w_aload_n (q := 83) (i := 0) (j := 0) hc dX7_has_82 rfl rfl rfl ?_
              refine gf_X7_19 (q := 86) hc dX7_has_83 (k_0 hK) (r_0_1 hR) rfl ?_
              refine w_callV_Wz (q := 89) (st := []) (args := []) (p := 6) hc (m_X2_isPrimitive hK hR) dX7_has_86 ml_X7_264 cf_X2_isPrimitive iv_X2_isPrimitive (k_6 hK) (C := RX2) (T := TX2) (N := 13) rfl rfl (Nat.lt_of_succ_le (Nat.le_of_ble_eq_true rfl)) rfl rfl (Nat.le_of_ble_eq_true rfl) ⟨Nat.le_of_ble_eq_true rfl, Nat.le_of_ble_eq_true rfl⟩ rfl (fun q_2 => ?_)
              refine w_istore_nB (q := 90) (i := 2) (lv' := fun v2_3 => [(2, .int v2_3), (0, .ref 0), (1, .int a1)]) hc dX7_has_89 rfl (hN 2 rfl) (fun _ => rfl) rfl (fun v2_3 => ?_)
              refine w_aload_n (q := 91) (i := 0) (j := 1) hc dX7_has_90 rfl rfl rfl ?_
              refine w_iload_n (q := 92) (i := 2) (j := 0) hc dX7_has_91 rfl rfl rfl ?_
              refine w_ifeq (q := 95) (tgt := 99) hc dX7_has_92 rfl rfl ?_ ?_
              · refine w_iconst (q := 100) hc dX7_has_99 ci_0 rfl ?_
                refine w_callV_Wi (q := 103) (st := []) (args := [.int 0]) (p := 0) hc (m_X7_tell hK hR) dX7_has_100 ml_X7_86 cf_X7_tell iv_X7_tell (k_0 hK) (C := RX7) (T := TX7) (N := 7) rfl rfl (Nat.lt_of_succ_le (Nat.le_of_ble_eq_true rfl)) rfl rfl (Nat.le_of_ble_eq_true rfl) ⟨Nat.le_of_ble_eq_true rfl, Nat.le_of_ble_eq_true rfl⟩ rfl (fun q_4 => ?_)
                exact w_ireturn (v := q_4.1) hc hq dX7_has_103 rfl rfl rfl
              · refine w_iconst (q := 96) hc dX7_has_95 ci_1 rfl ?_
                refine w_goto (tgt := 100) hc dX7_has_96 rfl ?_
                refine w_callV_Wi (q := 103) (st := []) (args := [.int 1]) (p := 0) hc (m_X7_tell hK hR) dX7_has_100 ml_X7_86 cf_X7_tell iv_X7_tell (k_0 hK) (C := RX7) (T := TX7) (N := 7) rfl rfl (Nat.lt_of_succ_le (Nat.le_of_ble_eq_true rfl)) rfl rfl (Nat.le_of_ble_eq_true rfl) ⟨Nat.le_of_ble_eq_true rfl, Nat.le_of_ble_eq_true rfl⟩ rfl (fun q_5 => ?_)
                exact w_ireturn (v := q_5.1) hc hq dX7_has_103 rfl rfl rfl
    · refine w_aload_n (q := 10) (i := 0) (j := 0) hc dX7_has_9 rfl rfl rfl ?_
      refine w_iconst (q := 11) hc dX7_has_10 ci_1 rfl ?_
      refine w_callV_Wi (q := 14) (st := []) (args := [.int 1]) (p := 0) hc (m_X7_refuse hK hR) dX7_has_11 ml_X7_56 cf_X7_refuse iv_X7_refuse (k_0 hK) (C := RX7) (T := TX7) (N := 7) rfl rfl (Nat.lt_of_succ_le (Nat.le_of_ble_eq_true rfl)) rfl rfl (Nat.le_of_ble_eq_true rfl) ⟨Nat.le_of_ble_eq_true rfl, Nat.le_of_ble_eq_true rfl⟩ rfl (fun q_20 => ?_)
      exact w_ireturn (v := q_20.1) hc hq dX7_has_14 rfl rfl rfl
set_option maxRecDepth 100000 in
set_option maxHeartbeats 4000000 in
theorem m_X7_commutator {l : Launch} {K : KT} {R : MR} {rm : Nat} {a1 : Int64} {a3 : Int64} {I : MI} {L : ML} (hK0 : K = lK rm) (hR0 : R = lR rm) : MFg l yX7_commutator cX7_commutator 9 (some .long) 3 69 [.ref 0, .long a1, .long a3] K R I L anLW meW (f_X7_commutator a1 a3 I L) := by
  refine mf_of (plainFor_of_name (by decide)) (Nat.le_of_ble_eq_true rfl) ?_
  intro G hc _ hK1 hR1 hn hq
  have hK := hK1.trans hK0
  have hR := hR1.trans hR0
  have hN : ∀ i, Nat.blt i 9 = true → i < gnL G := fun i h => hn ▸ Nat.blt_eq.mp h
  unfold f_X7_commutator
  show WW G 0 [(0, .ref 0), (1, .long a1), (3, .long a3)] [] I L _
  refine w_aload_n (q := 1) (i := 0) (j := 0) hc dX7_commutator_0 rfl rfl rfl ?_
  refine w_lload_n (q := 2) (i := 1) (j := 1) hc dX7_commutator_1 rfl rfl rfl ?_
  refine w_callV_Rl (q := 5) (st := []) (args := [.long a1]) (p := 0) hc (m_X7_read hK hR) dX7_commutator_2 ml_X7_114 cf_X7_read iv_X7_read (k_0 hK) (C := RX7) (T := TX7) (N := 7) rfl rfl (Nat.lt_of_succ_le (Nat.le_of_ble_eq_true rfl)) rfl rfl (Nat.le_of_ble_eq_true rfl) ⟨Nat.le_of_ble_eq_true rfl, Nat.le_of_ble_eq_true rfl⟩ rfl (fun q_1 => ?_)
  refine w_lstore (q := 7) (i := 5) (lv' := [(5, .long q_1), (0, .ref 0), (1, .long a1), (3, .long a3)]) hc dX7_commutator_5 (hN 6 rfl) rfl rfl ?_
  refine w_aload_n (q := 8) (i := 0) (j := 1) hc dX7_commutator_7 rfl rfl rfl ?_
  refine w_lload_n (q := 9) (i := 3) (j := 3) hc dX7_commutator_8 rfl rfl rfl ?_
  refine w_callV_Rl (q := 12) (st := []) (args := [.long a3]) (p := 0) hc (m_X7_read hK hR) dX7_commutator_9 ml_X7_114 cf_X7_read iv_X7_read (k_0 hK) (C := RX7) (T := TX7) (N := 7) rfl rfl (Nat.lt_of_succ_le (Nat.le_of_ble_eq_true rfl)) rfl rfl (Nat.le_of_ble_eq_true rfl) ⟨Nat.le_of_ble_eq_true rfl, Nat.le_of_ble_eq_true rfl⟩ rfl (fun q_2 => ?_)
  refine w_lstore (q := 14) (i := 7) (lv' := [(7, .long q_2), (5, .long q_1), (0, .ref 0), (1, .long a1), (3, .long a3)]) hc dX7_commutator_12 (hN 8 rfl) rfl rfl ?_
  refine w_lload (q := 16) (i := 5) (j := 1) hc dX7_commutator_14 rfl rfl ?_
  refine w_lconst (q := 17) hc dX7_commutator_16 cl_0 rfl ?_
  refine w_lcmp (q := 18) hc dX7_commutator_17  rfl ?_
  refine w_iflt (q := 21) (tgt := 28) hc dX7_commutator_18 rfl rfl ?_ ?_
  · refine w_aload_n (q := 29) (i := 0) (j := 2) hc dX7_commutator_28 rfl rfl rfl ?_
    refine w_iconst (q := 30) hc dX7_commutator_29 ci_1 rfl ?_
    refine w_callV_Wi (q := 33) (st := []) (args := [.int 1]) (p := 0) hc (m_X7_refuse hK hR) dX7_commutator_30 ml_X7_56 cf_X7_refuse iv_X7_refuse (k_0 hK) (C := RX7) (T := TX7) (N := 7) rfl rfl (Nat.lt_of_succ_le (Nat.le_of_ble_eq_true rfl)) rfl rfl (Nat.le_of_ble_eq_true rfl) ⟨Nat.le_of_ble_eq_true rfl, Nat.le_of_ble_eq_true rfl⟩ rfl (fun q_3 => ?_)
    refine w_i2l (q := 34) hc dX7_commutator_33  rfl ?_
    exact w_lreturn hc hq dX7_commutator_34 rfl rfl
  · refine w_lload (q := 23) (i := 7) (j := 0) hc dX7_commutator_21 rfl rfl ?_
    refine w_lconst (q := 24) hc dX7_commutator_23 cl_0 rfl ?_
    refine w_lcmp (q := 25) hc dX7_commutator_24  rfl ?_
    refine w_ifge (q := 28) (tgt := 35) hc dX7_commutator_25 rfl rfl ?_ ?_
    · refine w_aload_n (q := 36) (i := 0) (j := 2) hc dX7_commutator_35 rfl rfl rfl ?_
      refine w_lload (q := 38) (i := 5) (j := 1) hc dX7_commutator_36 rfl rfl ?_
      refine w_lload (q := 40) (i := 7) (j := 0) hc dX7_commutator_38 rfl rfl ?_
      refine w_aload_n (q := 41) (i := 0) (j := 2) hc dX7_commutator_40 rfl rfl rfl ?_
      refine gf_X7_19 (q := 44) hc dX7_commutator_41 (k_0 hK) (r_0_1 hR) rfl ?_
      refine gf_X7_95 (q := 47) hc dX7_commutator_44 (k_6 hK) rfl ?_
      refine w_callS_Rl (q := 50) (st := [.ref 0]) (args := [.long q_1, .long q_2, .int (I 6 0)]) hc (m_X6_commutatorOf hK hR) dX7_commutator_47 ml_X7_267 cf_X6_commutatorOf st_X6_commutatorOf rfl rfl (Nat.le_of_ble_eq_true rfl) ⟨Nat.le_of_ble_eq_true rfl, Nat.le_of_ble_eq_true rfl⟩ rfl (fun q_4 => ?_)
      refine w_callV_Wl (q := 53) (st := []) (args := [.long q_4]) (p := 0) hc (m_X7_tellTurn hK hR) dX7_commutator_50 ml_X7_110 cf_X7_tellTurn iv_X7_tellTurn (k_0 hK) (C := RX7) (T := TX7) (N := 7) rfl rfl (Nat.lt_of_succ_le (Nat.le_of_ble_eq_true rfl)) rfl rfl (Nat.le_of_ble_eq_true rfl) ⟨Nat.le_of_ble_eq_true rfl, Nat.le_of_ble_eq_true rfl⟩ rfl (fun q_5 => ?_)
      exact w_lreturn hc hq dX7_commutator_53 rfl rfl
    · refine w_aload_n (q := 29) (i := 0) (j := 2) hc dX7_commutator_28 rfl rfl rfl ?_
      refine w_iconst (q := 30) hc dX7_commutator_29 ci_1 rfl ?_
      refine w_callV_Wi (q := 33) (st := []) (args := [.int 1]) (p := 0) hc (m_X7_refuse hK hR) dX7_commutator_30 ml_X7_56 cf_X7_refuse iv_X7_refuse (k_0 hK) (C := RX7) (T := TX7) (N := 7) rfl rfl (Nat.lt_of_succ_le (Nat.le_of_ble_eq_true rfl)) rfl rfl (Nat.le_of_ble_eq_true rfl) ⟨Nat.le_of_ble_eq_true rfl, Nat.le_of_ble_eq_true rfl⟩ rfl (fun q_6 => ?_)
      refine w_i2l (q := 34) hc dX7_commutator_33  rfl ?_
      exact w_lreturn hc hq dX7_commutator_34 rfl rfl
set_option maxRecDepth 100000 in
set_option maxHeartbeats 4000000 in
theorem m_X7_turned {l : Launch} {K : KT} {R : MR} {rm : Nat} {a1 : Int64} {a3 : Int64} {I : MI} {L : ML} (hK0 : K = lK rm) (hR0 : R = lR rm) : MFg l yX7_turned cX7_turned 9 (some .long) 3 69 [.ref 0, .long a1, .long a3] K R I L anLW meW (f_X7_turned a1 a3 I L) := by
  refine mf_of (plainFor_of_name (by decide)) (Nat.le_of_ble_eq_true rfl) ?_
  intro G hc _ hK1 hR1 hn hq
  have hK := hK1.trans hK0
  have hR := hR1.trans hR0
  have hN : ∀ i, Nat.blt i 9 = true → i < gnL G := fun i h => hn ▸ Nat.blt_eq.mp h
  unfold f_X7_turned
  show WW G 0 [(0, .ref 0), (1, .long a1), (3, .long a3)] [] I L _
  refine w_aload_n (q := 1) (i := 0) (j := 0) hc dX7_turned_0 rfl rfl rfl ?_
  refine w_lload_n (q := 2) (i := 1) (j := 1) hc dX7_turned_1 rfl rfl rfl ?_
  refine w_callV_Rl (q := 5) (st := []) (args := [.long a1]) (p := 0) hc (m_X7_read hK hR) dX7_turned_2 ml_X7_114 cf_X7_read iv_X7_read (k_0 hK) (C := RX7) (T := TX7) (N := 7) rfl rfl (Nat.lt_of_succ_le (Nat.le_of_ble_eq_true rfl)) rfl rfl (Nat.le_of_ble_eq_true rfl) ⟨Nat.le_of_ble_eq_true rfl, Nat.le_of_ble_eq_true rfl⟩ rfl (fun q_1 => ?_)
  refine w_lstore (q := 7) (i := 5) (lv' := [(5, .long q_1), (0, .ref 0), (1, .long a1), (3, .long a3)]) hc dX7_turned_5 (hN 6 rfl) rfl rfl ?_
  refine w_aload_n (q := 8) (i := 0) (j := 1) hc dX7_turned_7 rfl rfl rfl ?_
  refine w_lload_n (q := 9) (i := 3) (j := 3) hc dX7_turned_8 rfl rfl rfl ?_
  refine w_callV_Rl (q := 12) (st := []) (args := [.long a3]) (p := 0) hc (m_X7_read hK hR) dX7_turned_9 ml_X7_114 cf_X7_read iv_X7_read (k_0 hK) (C := RX7) (T := TX7) (N := 7) rfl rfl (Nat.lt_of_succ_le (Nat.le_of_ble_eq_true rfl)) rfl rfl (Nat.le_of_ble_eq_true rfl) ⟨Nat.le_of_ble_eq_true rfl, Nat.le_of_ble_eq_true rfl⟩ rfl (fun q_2 => ?_)
  refine w_lstore (q := 14) (i := 7) (lv' := [(7, .long q_2), (5, .long q_1), (0, .ref 0), (1, .long a1), (3, .long a3)]) hc dX7_turned_12 (hN 8 rfl) rfl rfl ?_
  refine w_lload (q := 16) (i := 5) (j := 1) hc dX7_turned_14 rfl rfl ?_
  refine w_lconst (q := 17) hc dX7_turned_16 cl_0 rfl ?_
  refine w_lcmp (q := 18) hc dX7_turned_17  rfl ?_
  refine w_iflt (q := 21) (tgt := 28) hc dX7_turned_18 rfl rfl ?_ ?_
  · refine w_aload_n (q := 29) (i := 0) (j := 2) hc dX7_turned_28 rfl rfl rfl ?_
    refine w_iconst (q := 30) hc dX7_turned_29 ci_1 rfl ?_
    refine w_callV_Wi (q := 33) (st := []) (args := [.int 1]) (p := 0) hc (m_X7_refuse hK hR) dX7_turned_30 ml_X7_56 cf_X7_refuse iv_X7_refuse (k_0 hK) (C := RX7) (T := TX7) (N := 7) rfl rfl (Nat.lt_of_succ_le (Nat.le_of_ble_eq_true rfl)) rfl rfl (Nat.le_of_ble_eq_true rfl) ⟨Nat.le_of_ble_eq_true rfl, Nat.le_of_ble_eq_true rfl⟩ rfl (fun q_3 => ?_)
    refine w_i2l (q := 34) hc dX7_turned_33  rfl ?_
    exact w_lreturn hc hq dX7_turned_34 rfl rfl
  · refine w_lload (q := 23) (i := 7) (j := 0) hc dX7_turned_21 rfl rfl ?_
    refine w_lconst (q := 24) hc dX7_turned_23 cl_0 rfl ?_
    refine w_lcmp (q := 25) hc dX7_turned_24  rfl ?_
    refine w_ifge (q := 28) (tgt := 35) hc dX7_turned_25 rfl rfl ?_ ?_
    · refine w_aload_n (q := 36) (i := 0) (j := 2) hc dX7_turned_35 rfl rfl rfl ?_
      refine w_lload (q := 38) (i := 5) (j := 1) hc dX7_turned_36 rfl rfl ?_
      refine w_lload (q := 40) (i := 7) (j := 0) hc dX7_turned_38 rfl rfl ?_
      refine w_aload_n (q := 41) (i := 0) (j := 2) hc dX7_turned_40 rfl rfl rfl ?_
      refine gf_X7_19 (q := 44) hc dX7_turned_41 (k_0 hK) (r_0_1 hR) rfl ?_
      refine gf_X7_95 (q := 47) hc dX7_turned_44 (k_6 hK) rfl ?_
      refine w_callS_Rl (q := 50) (st := [.ref 0]) (args := [.long q_1, .long q_2, .int (I 6 0)]) hc (m_X6_conjugate hK hR) dX7_turned_47 ml_X7_270 cf_X6_conjugate st_X6_conjugate rfl rfl (Nat.le_of_ble_eq_true rfl) ⟨Nat.le_of_ble_eq_true rfl, Nat.le_of_ble_eq_true rfl⟩ rfl (fun q_4 => ?_)
      refine w_callV_Wl (q := 53) (st := []) (args := [.long q_4]) (p := 0) hc (m_X7_tellTurn hK hR) dX7_turned_50 ml_X7_110 cf_X7_tellTurn iv_X7_tellTurn (k_0 hK) (C := RX7) (T := TX7) (N := 7) rfl rfl (Nat.lt_of_succ_le (Nat.le_of_ble_eq_true rfl)) rfl rfl (Nat.le_of_ble_eq_true rfl) ⟨Nat.le_of_ble_eq_true rfl, Nat.le_of_ble_eq_true rfl⟩ rfl (fun q_5 => ?_)
      exact w_lreturn hc hq dX7_turned_53 rfl rfl
    · refine w_aload_n (q := 29) (i := 0) (j := 2) hc dX7_turned_28 rfl rfl rfl ?_
      refine w_iconst (q := 30) hc dX7_turned_29 ci_1 rfl ?_
      refine w_callV_Wi (q := 33) (st := []) (args := [.int 1]) (p := 0) hc (m_X7_refuse hK hR) dX7_turned_30 ml_X7_56 cf_X7_refuse iv_X7_refuse (k_0 hK) (C := RX7) (T := TX7) (N := 7) rfl rfl (Nat.lt_of_succ_le (Nat.le_of_ble_eq_true rfl)) rfl rfl (Nat.le_of_ble_eq_true rfl) ⟨Nat.le_of_ble_eq_true rfl, Nat.le_of_ble_eq_true rfl⟩ rfl (fun q_6 => ?_)
      refine w_i2l (q := 34) hc dX7_turned_33  rfl ?_
      exact w_lreturn hc hq dX7_turned_34 rfl rfl
set_option maxRecDepth 100000 in
set_option maxHeartbeats 4000000 in
theorem m_X7_central {l : Launch} {K : KT} {R : MR} {rm : Nat} {a1 : Int32} {I : MI} {L : ML} (hK0 : K = lK rm) (hR0 : R = lR rm) : MFg l yX7_central cX7_central 3 (some .int) 7 187 [.ref 0, .int a1] K R I L anIW meW (f_X7_central a1 I L) := by
  refine mf_of (plainFor_of_name (by decide)) (Nat.le_of_ble_eq_true rfl) ?_
  intro G hc _ hK1 hR1 hn hq
  have hK := hK1.trans hK0
  have hR := hR1.trans hR0
  have hN : ∀ i, Nat.blt i 3 = true → i < gnL G := fun i h => hn ▸ Nat.blt_eq.mp h
  unfold f_X7_central
  show WW G 0 [(0, .ref 0), (1, .int a1)] [] I L _
  refine w_iload_n (q := 1) (i := 1) (j := 1) hc dX7_central_0 rfl rfl rfl ?_
  refine w_ifge (q := 4) (tgt := 10) hc dX7_central_1 rfl rfl ?_ ?_
  · refine w_aload_n (q := 11) (i := 0) (j := 0) hc dX7_central_10 rfl rfl rfl ?_
    refine gf_X7_19 (q := 14) hc dX7_central_11 (k_0 hK) (r_0_1 hR) rfl ?_
    refine gf_X7_95 (q := 17) hc dX7_central_14 (k_6 hK) rfl ?_
    refine w_ifne (q := 20) (tgt := 26) hc dX7_central_17 rfl rfl ?_ ?_
    · refine w_aload_n (q := 21) (i := 0) (j := 0) hc dX7_central_20 rfl rfl rfl ?_
      refine w_iconst (q := 22) hc dX7_central_21 ci_5 rfl ?_
      refine w_callV_Wi (q := 25) (st := []) (args := [.int 5]) (p := 0) hc (m_X7_refuse hK hR) dX7_central_22 ml_X7_56 cf_X7_refuse iv_X7_refuse (k_0 hK) (C := RX7) (T := TX7) (N := 7) rfl rfl (Nat.lt_of_succ_le (Nat.le_of_ble_eq_true rfl)) rfl rfl (Nat.le_of_ble_eq_true rfl) ⟨Nat.le_of_ble_eq_true rfl, Nat.le_of_ble_eq_true rfl⟩ rfl (fun q_5 => ?_)
      exact w_ireturn (v := q_5.1) hc hq dX7_central_25 rfl rfl rfl
    · refine w_aload_n (q := 27) (i := 0) (j := 0) hc dX7_central_26 rfl rfl rfl ?_
      refine gf_X7_19 (q := 30) hc dX7_central_27 (k_0 hK) (r_0_1 hR) rfl ?_
      refine w_iconst (q := 31) hc dX7_central_30 ci_1 rfl ?_
      refine w_callV_Wr (q := 34) (st := []) (args := [.int 1]) (p := 6) hc (m_X2_descentByT hK hR) dX7_central_31 ml_X7_245 cf_X2_descentBy iv_X2_descentBy (k_6 hK) (C := RX2) (T := TX2) (N := 13) rfl rfl (Nat.lt_of_succ_le (Nat.le_of_ble_eq_true rfl)) rfl rfl (Nat.le_of_ble_eq_true rfl) ⟨Nat.le_of_ble_eq_true rfl, Nat.le_of_ble_eq_true rfl⟩ rfl (fun q_1 => ?_)
      refine w_iload_n (q := 35) (i := 1) (j := 1) hc dX7_central_34 rfl rfl rfl ?_
      refine w_callV_Ri (q := 38) (st := []) (args := [.int a1]) (p := 33) hc (m_X1_sizeAt hK hR (de_33)) dX7_central_35 ml_X7_249 cf_X1_sizeAt iv_X1_sizeAt (k_33 hK) (C := RX1) (T := TX1) (N := 5) rfl rfl (Nat.lt_of_succ_le (Nat.le_of_ble_eq_true rfl)) rfl rfl (Nat.le_of_ble_eq_true rfl) ⟨Nat.le_of_ble_eq_true rfl, Nat.le_of_ble_eq_true rfl⟩ rfl (fun q_2 => ?_)
      refine w_istore_n (q := 39) (i := 2) (lv' := [(2, .int q_2), (0, .ref 0), (1, .int a1)]) hc dX7_central_38 rfl (hN 2 rfl) rfl rfl ?_
      refine w_iload_n (q := 40) (i := 2) (j := 0) hc dX7_central_39 rfl rfl rfl ?_
      refine w_ifne (q := 43) (tgt := 51) hc dX7_central_40 rfl rfl ?_ ?_
      · refine w_aload_n (q := 44) (i := 0) (j := 1) hc dX7_central_43 rfl rfl rfl ?_
        refine w_iconst (q := 45) hc dX7_central_44 ci_5 rfl ?_
        refine w_callV_Wi (q := 48) (st := []) (args := [.int 5]) (p := 0) hc (m_X7_refuse hK hR) dX7_central_45 ml_X7_56 cf_X7_refuse iv_X7_refuse (k_0 hK) (C := RX7) (T := TX7) (N := 7) rfl rfl (Nat.lt_of_succ_le (Nat.le_of_ble_eq_true rfl)) rfl rfl (Nat.le_of_ble_eq_true rfl) ⟨Nat.le_of_ble_eq_true rfl, Nat.le_of_ble_eq_true rfl⟩ rfl (fun q_4 => ?_)
        refine w_goto (tgt := 56) hc dX7_central_48 rfl ?_
        exact w_ireturn (v := q_4.1) hc hq dX7_central_56 rfl rfl rfl
      · refine w_aload_n (q := 52) (i := 0) (j := 1) hc dX7_central_51 rfl rfl rfl ?_
        refine w_iload_n (q := 53) (i := 2) (j := 0) hc dX7_central_52 rfl rfl rfl ?_
        refine w_callV_Wi (q := 56) (st := []) (args := [.int q_2]) (p := 0) hc (m_X7_tell hK hR) dX7_central_53 ml_X7_86 cf_X7_tell iv_X7_tell (k_0 hK) (C := RX7) (T := TX7) (N := 7) rfl rfl (Nat.lt_of_succ_le (Nat.le_of_ble_eq_true rfl)) rfl rfl (Nat.le_of_ble_eq_true rfl) ⟨Nat.le_of_ble_eq_true rfl, Nat.le_of_ble_eq_true rfl⟩ rfl (fun q_3 => ?_)
        exact w_ireturn (v := q_3.1) hc hq dX7_central_56 rfl rfl rfl
  · refine w_aload_n (q := 5) (i := 0) (j := 0) hc dX7_central_4 rfl rfl rfl ?_
    refine w_iconst (q := 6) hc dX7_central_5 ci_1 rfl ?_
    refine w_callV_Wi (q := 9) (st := []) (args := [.int 1]) (p := 0) hc (m_X7_refuse hK hR) dX7_central_6 ml_X7_56 cf_X7_refuse iv_X7_refuse (k_0 hK) (C := RX7) (T := TX7) (N := 7) rfl rfl (Nat.lt_of_succ_le (Nat.le_of_ble_eq_true rfl)) rfl rfl (Nat.le_of_ble_eq_true rfl) ⟨Nat.le_of_ble_eq_true rfl, Nat.le_of_ble_eq_true rfl⟩ rfl (fun q_6 => ?_)
    exact w_ireturn (v := q_6.1) hc hq dX7_central_9 rfl rfl rfl
set_option maxRecDepth 100000 in
set_option maxHeartbeats 4000000 in
theorem m_X7_by {l : Launch} {K : KT} {R : MR} {rm : Nat} {a1 : Int32} {I : MI} {L : ML} (hK0 : K = lK rm) (hR0 : R = lR rm) : MFg l yX7_by cX7_by 2 (some .int) 6 159 [.ref 0, .int a1] K R I L anIW meW (f_X7_by a1 I L) := by
  refine mf_of (plainFor_of_name (by decide)) (Nat.le_of_ble_eq_true rfl) ?_
  intro G hc _ hK1 hR1 hn hq
  have hK := hK1.trans hK0
  have hR := hR1.trans hR0
  have hN : ∀ i, Nat.blt i 2 = true → i < gnL G := fun i h => hn ▸ Nat.blt_eq.mp h
  unfold f_X7_by
  show WW G 0 [(0, .ref 0), (1, .int a1)] [] I L _
  refine w_aload_n (q := 1) (i := 0) (j := 0) hc dX7_by_0 rfl rfl rfl ?_
  refine gf_X7_19 (q := 4) hc dX7_by_1 (k_0 hK) (r_0_1 hR) rfl ?_
  refine w_iload_n (q := 5) (i := 1) (j := 1) hc dX7_by_4 rfl rfl rfl ?_
  refine w_callV_Rz (q := 8) (st := []) (args := [.int a1]) (p := 6) hc (m_X2_hasMoves hK hR) dX7_by_5 ml_X7_277 cf_X2_hasMoves iv_X2_hasMoves (k_6 hK) (C := RX2) (T := TX2) (N := 13) rfl rfl (Nat.lt_of_succ_le (Nat.le_of_ble_eq_true rfl)) rfl rfl (Nat.le_of_ble_eq_true rfl) ⟨Nat.le_of_ble_eq_true rfl, Nat.le_of_ble_eq_true rfl⟩ rfl (fun q_1 => ?_)
  refine w_ifne (q := 11) (tgt := 17) hc dX7_by_8 rfl rfl ?_ ?_
  · refine w_aload_n (q := 12) (i := 0) (j := 0) hc dX7_by_11 rfl rfl rfl ?_
    refine w_iconst (q := 13) hc dX7_by_12 ci_2 rfl ?_
    refine w_callV_Wi (q := 16) (st := []) (args := [.int 2]) (p := 0) hc (m_X7_refuse hK hR) dX7_by_13 ml_X7_56 cf_X7_refuse iv_X7_refuse (k_0 hK) (C := RX7) (T := TX7) (N := 7) rfl rfl (Nat.lt_of_succ_le (Nat.le_of_ble_eq_true rfl)) rfl rfl (Nat.le_of_ble_eq_true rfl) ⟨Nat.le_of_ble_eq_true rfl, Nat.le_of_ble_eq_true rfl⟩ rfl (fun q_5 => ?_)
    exact w_ireturn (v := q_5.1) hc hq dX7_by_16 rfl rfl rfl
  · refine w_aload_n (q := 18) (i := 0) (j := 0) hc dX7_by_17 rfl rfl rfl ?_
    refine gf_X7_19 (q := 21) hc dX7_by_18 (k_0 hK) (r_0_1 hR) rfl ?_
    refine gf_X7_95 (q := 24) hc dX7_by_21 (k_6 hK) rfl ?_
    refine w_ifne (q := 27) (tgt := 33) hc dX7_by_24 rfl rfl ?_ ?_
    · refine w_aload_n (q := 28) (i := 0) (j := 0) hc dX7_by_27 rfl rfl rfl ?_
      refine w_iconst (q := 29) hc dX7_by_28 ci_5 rfl ?_
      refine w_callV_Wi (q := 32) (st := []) (args := [.int 5]) (p := 0) hc (m_X7_refuse hK hR) dX7_by_29 ml_X7_56 cf_X7_refuse iv_X7_refuse (k_0 hK) (C := RX7) (T := TX7) (N := 7) rfl rfl (Nat.lt_of_succ_le (Nat.le_of_ble_eq_true rfl)) rfl rfl (Nat.le_of_ble_eq_true rfl) ⟨Nat.le_of_ble_eq_true rfl, Nat.le_of_ble_eq_true rfl⟩ rfl (fun q_4 => ?_)
      exact w_ireturn (v := q_4.1) hc hq dX7_by_32 rfl rfl rfl
    · refine w_aload_n (q := 34) (i := 0) (j := 0) hc dX7_by_33 rfl rfl rfl ?_
      refine w_aload_n (q := 35) (i := 0) (j := 0) hc dX7_by_34 rfl rfl rfl ?_
      refine gf_X7_19 (q := 38) hc dX7_by_35 (k_0 hK) (r_0_1 hR) rfl ?_
      refine w_iload_n (q := 39) (i := 1) (j := 1) hc dX7_by_38 rfl rfl rfl ?_
      refine w_callV_Wi (q := 42) (st := [.ref 0]) (args := [.int a1]) (p := 6) hc (m_X2_sizeBy hK hR) dX7_by_39 ml_X7_280 cf_X2_sizeBy iv_X2_sizeBy (k_6 hK) (C := RX2) (T := TX2) (N := 13) rfl rfl (Nat.lt_of_succ_le (Nat.le_of_ble_eq_true rfl)) rfl rfl (Nat.le_of_ble_eq_true rfl) ⟨Nat.le_of_ble_eq_true rfl, Nat.le_of_ble_eq_true rfl⟩ rfl (fun q_2 => ?_)
      refine w_callV_Wi (q := 45) (st := []) (args := [.int q_2.1]) (p := 0) hc (m_X7_tell hK hR) dX7_by_42 ml_X7_86 cf_X7_tell iv_X7_tell (k_0 hK) (C := RX7) (T := TX7) (N := 7) rfl rfl (Nat.lt_of_succ_le (Nat.le_of_ble_eq_true rfl)) rfl rfl (Nat.le_of_ble_eq_true rfl) ⟨Nat.le_of_ble_eq_true rfl, Nat.le_of_ble_eq_true rfl⟩ rfl (fun q_3 => ?_)
      exact w_ireturn (v := q_3.1) hc hq dX7_by_45 rfl rfl rfl
set_option maxRecDepth 100000 in
set_option maxHeartbeats 4000000 in
theorem m_X7_normal {l : Launch} {K : KT} {R : MR} {rm : Nat} {a1 : Int32} {I : MI} {L : ML} (hK0 : K = lK rm) (hR0 : R = lR rm) : MFg l yX7_normal cX7_normal 2 (some .int) 6 160 [.ref 0, .int a1] K R I L anIW meW (f_X7_normal a1 I L) := by
  refine mf_of (plainFor_of_name (by decide)) (Nat.le_of_ble_eq_true rfl) ?_
  intro G hc _ hK1 hR1 hn hq
  have hK := hK1.trans hK0
  have hR := hR1.trans hR0
  have hN : ∀ i, Nat.blt i 2 = true → i < gnL G := fun i h => hn ▸ Nat.blt_eq.mp h
  unfold f_X7_normal
  show WW G 0 [(0, .ref 0), (1, .int a1)] [] I L _
  refine w_aload_n (q := 1) (i := 0) (j := 0) hc dX7_normal_0 rfl rfl rfl ?_
  refine gf_X7_19 (q := 4) hc dX7_normal_1 (k_0 hK) (r_0_1 hR) rfl ?_
  refine w_iload_n (q := 5) (i := 1) (j := 1) hc dX7_normal_4 rfl rfl rfl ?_
  refine w_callV_Rz (q := 8) (st := []) (args := [.int a1]) (p := 6) hc (m_X2_hasMoves hK hR) dX7_normal_5 ml_X7_277 cf_X2_hasMoves iv_X2_hasMoves (k_6 hK) (C := RX2) (T := TX2) (N := 13) rfl rfl (Nat.lt_of_succ_le (Nat.le_of_ble_eq_true rfl)) rfl rfl (Nat.le_of_ble_eq_true rfl) ⟨Nat.le_of_ble_eq_true rfl, Nat.le_of_ble_eq_true rfl⟩ rfl (fun q_1 => ?_)
  refine w_ifne (q := 11) (tgt := 17) hc dX7_normal_8 rfl rfl ?_ ?_
  · refine w_aload_n (q := 12) (i := 0) (j := 0) hc dX7_normal_11 rfl rfl rfl ?_
    refine w_iconst (q := 13) hc dX7_normal_12 ci_2 rfl ?_
    refine w_callV_Wi (q := 16) (st := []) (args := [.int 2]) (p := 0) hc (m_X7_refuse hK hR) dX7_normal_13 ml_X7_56 cf_X7_refuse iv_X7_refuse (k_0 hK) (C := RX7) (T := TX7) (N := 7) rfl rfl (Nat.lt_of_succ_le (Nat.le_of_ble_eq_true rfl)) rfl rfl (Nat.le_of_ble_eq_true rfl) ⟨Nat.le_of_ble_eq_true rfl, Nat.le_of_ble_eq_true rfl⟩ rfl (fun q_6 => ?_)
    exact w_ireturn (v := q_6.1) hc hq dX7_normal_16 rfl rfl rfl
  · refine w_aload_n (q := 18) (i := 0) (j := 0) hc dX7_normal_17 rfl rfl rfl ?_
    refine gf_X7_19 (q := 21) hc dX7_normal_18 (k_0 hK) (r_0_1 hR) rfl ?_
    refine gf_X7_95 (q := 24) hc dX7_normal_21 (k_6 hK) rfl ?_
    refine w_ifne (q := 27) (tgt := 33) hc dX7_normal_24 rfl rfl ?_ ?_
    · refine w_aload_n (q := 28) (i := 0) (j := 0) hc dX7_normal_27 rfl rfl rfl ?_
      refine w_iconst (q := 29) hc dX7_normal_28 ci_5 rfl ?_
      refine w_callV_Wi (q := 32) (st := []) (args := [.int 5]) (p := 0) hc (m_X7_refuse hK hR) dX7_normal_29 ml_X7_56 cf_X7_refuse iv_X7_refuse (k_0 hK) (C := RX7) (T := TX7) (N := 7) rfl rfl (Nat.lt_of_succ_le (Nat.le_of_ble_eq_true rfl)) rfl rfl (Nat.le_of_ble_eq_true rfl) ⟨Nat.le_of_ble_eq_true rfl, Nat.le_of_ble_eq_true rfl⟩ rfl (fun q_5 => ?_)
      exact w_ireturn (v := q_5.1) hc hq dX7_normal_32 rfl rfl rfl
    · refine w_aload_n (q := 34) (i := 0) (j := 0) hc dX7_normal_33 rfl rfl rfl ?_
      refine w_aload_n (q := 35) (i := 0) (j := 0) hc dX7_normal_34 rfl rfl rfl ?_
      refine gf_X7_19 (q := 38) hc dX7_normal_35 (k_0 hK) (r_0_1 hR) rfl ?_
      refine w_iload_n (q := 39) (i := 1) (j := 1) hc dX7_normal_38 rfl rfl rfl ?_
      refine w_callV_Wz (q := 42) (st := [.ref 0]) (args := [.int a1]) (p := 6) hc (m_X2_staysTurned hK hR) dX7_normal_39 ml_X7_286 cf_X2_staysTurned iv_X2_staysTurned (k_6 hK) (C := RX2) (T := TX2) (N := 13) rfl rfl (Nat.lt_of_succ_le (Nat.le_of_ble_eq_true rfl)) rfl rfl (Nat.le_of_ble_eq_true rfl) ⟨Nat.le_of_ble_eq_true rfl, Nat.le_of_ble_eq_true rfl⟩ rfl (fun q_2 => ?_)
      refine w_ifeq (q := 45) (tgt := 49) hc dX7_normal_42 rfl rfl ?_ ?_
      · refine w_iconst (q := 50) hc dX7_normal_49 ci_0 rfl ?_
        refine w_callV_Wi (q := 53) (st := []) (args := [.int 0]) (p := 0) hc (m_X7_tell hK hR) dX7_normal_50 ml_X7_86 cf_X7_tell iv_X7_tell (k_0 hK) (C := RX7) (T := TX7) (N := 7) rfl rfl (Nat.lt_of_succ_le (Nat.le_of_ble_eq_true rfl)) rfl rfl (Nat.le_of_ble_eq_true rfl) ⟨Nat.le_of_ble_eq_true rfl, Nat.le_of_ble_eq_true rfl⟩ rfl (fun q_3 => ?_)
        exact w_ireturn (v := q_3.1) hc hq dX7_normal_53 rfl rfl rfl
      · refine w_iconst (q := 46) hc dX7_normal_45 ci_1 rfl ?_
        refine w_goto (tgt := 50) hc dX7_normal_46 rfl ?_
        refine w_callV_Wi (q := 53) (st := []) (args := [.int 1]) (p := 0) hc (m_X7_tell hK hR) dX7_normal_50 ml_X7_86 cf_X7_tell iv_X7_tell (k_0 hK) (C := RX7) (T := TX7) (N := 7) rfl rfl (Nat.lt_of_succ_le (Nat.le_of_ble_eq_true rfl)) rfl rfl (Nat.le_of_ble_eq_true rfl) ⟨Nat.le_of_ble_eq_true rfl, Nat.le_of_ble_eq_true rfl⟩ rfl (fun q_4 => ?_)
        exact w_ireturn (v := q_4.1) hc hq dX7_normal_53 rfl rfl rfl
set_option maxRecDepth 100000 in
set_option maxHeartbeats 4000000 in
theorem m_X7_spare {l : Launch} {K : KT} {R : MR} {rm : Nat} {I : MI} {L : ML} (hK0 : K = lK rm) (hR0 : R = lR rm) : MFg l yX7_spare cX7_spare 1 (some .int) 7 181 [.ref 0] K R I L anIW meW (f_X7_spare I L) := by
  refine mf_of (plainFor_of_name (by decide)) (Nat.le_of_ble_eq_true rfl) ?_
  intro G hc _ hK1 hR1 hn hq
  have hK := hK1.trans hK0
  have hR := hR1.trans hR0
  have hN : ∀ i, Nat.blt i 1 = true → i < gnL G := fun i h => hn ▸ Nat.blt_eq.mp h
  unfold f_X7_spare
  show WW G 0 [(0, .ref 0)] [] I L _
  refine w_aload_n (q := 1) (i := 0) (j := 0) hc dX7_spare_0 rfl rfl rfl ?_
  refine gf_X7_19 (q := 4) hc dX7_spare_1 (k_0 hK) (r_0_1 hR) rfl ?_
  refine gf_X7_95 (q := 7) hc dX7_spare_4 (k_6 hK) rfl ?_
  refine w_ifne (q := 10) (tgt := 16) hc dX7_spare_7 rfl rfl ?_ ?_
  · refine w_aload_n (q := 11) (i := 0) (j := 0) hc dX7_spare_10 rfl rfl rfl ?_
    refine w_iconst (q := 12) hc dX7_spare_11 ci_5 rfl ?_
    refine w_callV_Wi (q := 15) (st := []) (args := [.int 5]) (p := 0) hc (m_X7_refuse hK hR) dX7_spare_12 ml_X7_56 cf_X7_refuse iv_X7_refuse (k_0 hK) (C := RX7) (T := TX7) (N := 7) rfl rfl (Nat.lt_of_succ_le (Nat.le_of_ble_eq_true rfl)) rfl rfl (Nat.le_of_ble_eq_true rfl) ⟨Nat.le_of_ble_eq_true rfl, Nat.le_of_ble_eq_true rfl⟩ rfl (fun q_3 => ?_)
    exact w_ireturn (v := q_3.1) hc hq dX7_spare_15 rfl rfl rfl
  · refine w_aload_n (q := 17) (i := 0) (j := 0) hc dX7_spare_16 rfl rfl rfl ?_
    refine w_aload_n (q := 18) (i := 0) (j := 0) hc dX7_spare_17 rfl rfl rfl ?_
    refine gf_X7_19 (q := 21) hc dX7_spare_18 (k_0 hK) (r_0_1 hR) rfl ?_
    refine w_callV_Wi (q := 24) (st := [.ref 0]) (args := []) (p := 6) hc (m_X2_spareMoves hK hR) dX7_spare_21 ml_X7_289 cf_X2_spareMoves iv_X2_spareMoves (k_6 hK) (C := RX2) (T := TX2) (N := 13) rfl rfl (Nat.lt_of_succ_le (Nat.le_of_ble_eq_true rfl)) rfl rfl (Nat.le_of_ble_eq_true rfl) ⟨Nat.le_of_ble_eq_true rfl, Nat.le_of_ble_eq_true rfl⟩ rfl (fun q_1 => ?_)
    refine w_callV_Wi (q := 27) (st := []) (args := [.int q_1.1]) (p := 0) hc (m_X7_tell hK hR) dX7_spare_24 ml_X7_86 cf_X7_tell iv_X7_tell (k_0 hK) (C := RX7) (T := TX7) (N := 7) rfl rfl (Nat.lt_of_succ_le (Nat.le_of_ble_eq_true rfl)) rfl rfl (Nat.le_of_ble_eq_true rfl) ⟨Nat.le_of_ble_eq_true rfl, Nat.le_of_ble_eq_true rfl⟩ rfl (fun q_2 => ?_)
    exact w_ireturn (v := q_2.1) hc hq dX7_spare_27 rfl rfl rfl
set_option maxRecDepth 100000 in
set_option maxHeartbeats 4000000 in
theorem m_X7_fewest {l : Launch} {K : KT} {R : MR} {rm : Nat} {I : MI} {L : ML} (hK0 : K = lK rm) (hR0 : R = lR rm) : MFg l yX7_fewest cX7_fewest 1 (some .int) 7 184 [.ref 0] K R I L anIW meW (f_X7_fewest I L) := by
  refine mf_of (plainFor_of_name (by decide)) (Nat.le_of_ble_eq_true rfl) ?_
  intro G hc _ hK1 hR1 hn hq
  have hK := hK1.trans hK0
  have hR := hR1.trans hR0
  have hN : ∀ i, Nat.blt i 1 = true → i < gnL G := fun i h => hn ▸ Nat.blt_eq.mp h
  unfold f_X7_fewest
  show WW G 0 [(0, .ref 0)] [] I L _
  refine w_aload_n (q := 1) (i := 0) (j := 0) hc dX7_fewest_0 rfl rfl rfl ?_
  refine gf_X7_19 (q := 4) hc dX7_fewest_1 (k_0 hK) (r_0_1 hR) rfl ?_
  refine gf_X7_95 (q := 7) hc dX7_fewest_4 (k_6 hK) rfl ?_
  refine w_ifne (q := 10) (tgt := 16) hc dX7_fewest_7 rfl rfl ?_ ?_
  · refine w_aload_n (q := 11) (i := 0) (j := 0) hc dX7_fewest_10 rfl rfl rfl ?_
    refine w_iconst (q := 12) hc dX7_fewest_11 ci_5 rfl ?_
    refine w_callV_Wi (q := 15) (st := []) (args := [.int 5]) (p := 0) hc (m_X7_refuse hK hR) dX7_fewest_12 ml_X7_56 cf_X7_refuse iv_X7_refuse (k_0 hK) (C := RX7) (T := TX7) (N := 7) rfl rfl (Nat.lt_of_succ_le (Nat.le_of_ble_eq_true rfl)) rfl rfl (Nat.le_of_ble_eq_true rfl) ⟨Nat.le_of_ble_eq_true rfl, Nat.le_of_ble_eq_true rfl⟩ rfl (fun q_4 => ?_)
    exact w_ireturn (v := q_4.1) hc hq dX7_fewest_15 rfl rfl rfl
  · refine w_aload_n (q := 17) (i := 0) (j := 0) hc dX7_fewest_16 rfl rfl rfl ?_
    refine w_aload_n (q := 18) (i := 0) (j := 0) hc dX7_fewest_17 rfl rfl rfl ?_
    refine gf_X7_19 (q := 21) hc dX7_fewest_18 (k_0 hK) (r_0_1 hR) rfl ?_
    refine w_aload_n (q := 22) (i := 0) (j := 0) hc dX7_fewest_21 rfl rfl rfl ?_
    refine gf_X7_19 (q := 25) hc dX7_fewest_22 (k_0 hK) (r_0_1 hR) rfl ?_
    refine w_callV_Wi (q := 28) (st := [.ref 6, .ref 0]) (args := []) (p := 6) hc (m_X2_spareMoves hK hR) dX7_fewest_25 ml_X7_289 cf_X2_spareMoves iv_X2_spareMoves (k_6 hK) (C := RX2) (T := TX2) (N := 13) rfl rfl (Nat.lt_of_succ_le (Nat.le_of_ble_eq_true rfl)) rfl rfl (Nat.le_of_ble_eq_true rfl) ⟨Nat.le_of_ble_eq_true rfl, Nat.le_of_ble_eq_true rfl⟩ rfl (fun q_1 => ?_)
    refine w_callV_Wi (q := 31) (st := [.ref 0]) (args := [.int q_1.1]) (p := 6) hc (m_X2_fewestMoves hK hR) dX7_fewest_28 ml_X7_292 cf_X2_fewestMoves iv_X2_fewestMoves (k_6 hK) (C := RX2) (T := TX2) (N := 13) rfl rfl (Nat.lt_of_succ_le (Nat.le_of_ble_eq_true rfl)) rfl rfl (Nat.le_of_ble_eq_true rfl) ⟨Nat.le_of_ble_eq_true rfl, Nat.le_of_ble_eq_true rfl⟩ rfl (fun q_2 => ?_)
    refine w_callV_Wi (q := 34) (st := []) (args := [.int q_2.1]) (p := 0) hc (m_X7_tell hK hR) dX7_fewest_31 ml_X7_86 cf_X7_tell iv_X7_tell (k_0 hK) (C := RX7) (T := TX7) (N := 7) rfl rfl (Nat.lt_of_succ_le (Nat.le_of_ble_eq_true rfl)) rfl rfl (Nat.le_of_ble_eq_true rfl) ⟨Nat.le_of_ble_eq_true rfl, Nat.le_of_ble_eq_true rfl⟩ rfl (fun q_3 => ?_)
    exact w_ireturn (v := q_3.1) hc hq dX7_fewest_34 rfl rfl rfl
set_option maxRecDepth 100000 in
set_option maxHeartbeats 4000000 in
theorem m_X7_holds {l : Launch} {K : KT} {R : MR} {rm : Nat} {a1 : Int32} {I : MI} {L : ML} (hK0 : K = lK rm) (hR0 : R = lR rm) : MFg l yX7_holds cX7_holds 2 (some .int) 5 140 [.ref 0, .int a1] K R I L anIW meW (f_X7_holds a1 I L) := by
  refine mf_of (plainFor_of_name (by decide)) (Nat.le_of_ble_eq_true rfl) ?_
  intro G hc _ hK1 hR1 hn hq
  have hK := hK1.trans hK0
  have hR := hR1.trans hR0
  have hN : ∀ i, Nat.blt i 2 = true → i < gnL G := fun i h => hn ▸ Nat.blt_eq.mp h
  unfold f_X7_holds
  show WW G 0 [(0, .ref 0), (1, .int a1)] [] I L _
  refine w_aload_n (q := 1) (i := 0) (j := 0) hc dX7_holds_0 rfl rfl rfl ?_
  refine gf_X7_19 (q := 4) hc dX7_holds_1 (k_0 hK) (r_0_1 hR) rfl ?_
  refine w_iload_n (q := 5) (i := 1) (j := 1) hc dX7_holds_4 rfl rfl rfl ?_
  refine w_callV_Rz (q := 8) (st := []) (args := [.int a1]) (p := 6) hc (m_X2_hasSet hK hR) dX7_holds_5 ml_X7_295 cf_X2_hasSet iv_X2_hasSet (k_6 hK) (C := RX2) (T := TX2) (N := 13) rfl rfl (Nat.lt_of_succ_le (Nat.le_of_ble_eq_true rfl)) rfl rfl (Nat.le_of_ble_eq_true rfl) ⟨Nat.le_of_ble_eq_true rfl, Nat.le_of_ble_eq_true rfl⟩ rfl (fun q_1 => ?_)
  refine w_ifne (q := 11) (tgt := 17) hc dX7_holds_8 rfl rfl ?_ ?_
  · refine w_aload_n (q := 12) (i := 0) (j := 0) hc dX7_holds_11 rfl rfl rfl ?_
    refine w_iconst (q := 13) hc dX7_holds_12 ci_2 rfl ?_
    refine w_callV_Wi (q := 16) (st := []) (args := [.int 2]) (p := 0) hc (m_X7_refuse hK hR) dX7_holds_13 ml_X7_56 cf_X7_refuse iv_X7_refuse (k_0 hK) (C := RX7) (T := TX7) (N := 7) rfl rfl (Nat.lt_of_succ_le (Nat.le_of_ble_eq_true rfl)) rfl rfl (Nat.le_of_ble_eq_true rfl) ⟨Nat.le_of_ble_eq_true rfl, Nat.le_of_ble_eq_true rfl⟩ rfl (fun q_4 => ?_)
    exact w_ireturn (v := q_4.1) hc hq dX7_holds_16 rfl rfl rfl
  · refine w_aload_n (q := 18) (i := 0) (j := 0) hc dX7_holds_17 rfl rfl rfl ?_
    refine w_aload_n (q := 19) (i := 0) (j := 0) hc dX7_holds_18 rfl rfl rfl ?_
    refine gf_X7_19 (q := 22) hc dX7_holds_19 (k_0 hK) (r_0_1 hR) rfl ?_
    refine w_iload_n (q := 23) (i := 1) (j := 1) hc dX7_holds_22 rfl rfl rfl ?_
    refine w_callV_Wi (q := 26) (st := [.ref 0]) (args := [.int a1]) (p := 6) hc (m_X2_countHolding hK hR) dX7_holds_23 ml_X7_298 cf_X2_countHolding iv_X2_countHolding (k_6 hK) (C := RX2) (T := TX2) (N := 13) rfl rfl (Nat.lt_of_succ_le (Nat.le_of_ble_eq_true rfl)) rfl rfl (Nat.le_of_ble_eq_true rfl) ⟨Nat.le_of_ble_eq_true rfl, Nat.le_of_ble_eq_true rfl⟩ rfl (fun q_2 => ?_)
    refine w_callV_Wi (q := 29) (st := []) (args := [.int q_2.1]) (p := 0) hc (m_X7_tell hK hR) dX7_holds_26 ml_X7_86 cf_X7_tell iv_X7_tell (k_0 hK) (C := RX7) (T := TX7) (N := 7) rfl rfl (Nat.lt_of_succ_le (Nat.le_of_ble_eq_true rfl)) rfl rfl (Nat.le_of_ble_eq_true rfl) ⟨Nat.le_of_ble_eq_true rfl, Nat.le_of_ble_eq_true rfl⟩ rfl (fun q_3 => ?_)
    exact w_ireturn (v := q_3.1) hc hq dX7_holds_29 rfl rfl rfl
set_option maxRecDepth 100000 in
set_option maxHeartbeats 4000000 in
theorem m_X7_block {l : Launch} {K : KT} {R : MR} {rm : Nat} {a1 : Int32} {a2 : Int32} {I : MI} {L : ML} (hK0 : K = lK rm) (hR0 : R = lR rm) : MFg l yX7_block cX7_block 3 (some .int) 3 75 [.ref 0, .int a1, .int a2] K R I L anIW meW (f_X7_block a1 a2 I L) := by
  refine mf_of (plainFor_of_name (by decide)) (Nat.le_of_ble_eq_true rfl) ?_
  intro G hc _ hK1 hR1 hn hq
  have hK := hK1.trans hK0
  have hR := hR1.trans hR0
  have hN : ∀ i, Nat.blt i 3 = true → i < gnL G := fun i h => hn ▸ Nat.blt_eq.mp h
  unfold f_X7_block
  show WW G 0 [(0, .ref 0), (1, .int a1), (2, .int a2)] [] I L _
  refine w_aload_n (q := 1) (i := 0) (j := 0) hc dX7_block_0 rfl rfl rfl ?_
  refine gf_X7_19 (q := 4) hc dX7_block_1 (k_0 hK) (r_0_1 hR) rfl ?_
  refine w_iload_n (q := 5) (i := 1) (j := 1) hc dX7_block_4 rfl rfl rfl ?_
  refine w_callV_Rz (q := 8) (st := []) (args := [.int a1]) (p := 6) hc (m_X2_hasPoint hK hR) dX7_block_5 ml_X7_117 cf_X2_hasPoint iv_X2_hasPoint (k_6 hK) (C := RX2) (T := TX2) (N := 13) rfl rfl (Nat.lt_of_succ_le (Nat.le_of_ble_eq_true rfl)) rfl rfl (Nat.le_of_ble_eq_true rfl) ⟨Nat.le_of_ble_eq_true rfl, Nat.le_of_ble_eq_true rfl⟩ rfl (fun q_1 => ?_)
  refine w_ifeq (q := 11) (tgt := 22) hc dX7_block_8 rfl rfl ?_ ?_
  · refine w_aload_n (q := 23) (i := 0) (j := 0) hc dX7_block_22 rfl rfl rfl ?_
    refine w_iconst (q := 24) hc dX7_block_23 ci_2 rfl ?_
    refine w_callV_Wi (q := 27) (st := []) (args := [.int 2]) (p := 0) hc (m_X7_refuse hK hR) dX7_block_24 ml_X7_56 cf_X7_refuse iv_X7_refuse (k_0 hK) (C := RX7) (T := TX7) (N := 7) rfl rfl (Nat.lt_of_succ_le (Nat.le_of_ble_eq_true rfl)) rfl rfl (Nat.le_of_ble_eq_true rfl) ⟨Nat.le_of_ble_eq_true rfl, Nat.le_of_ble_eq_true rfl⟩ rfl (fun q_2 => ?_)
    exact w_ireturn (v := q_2.1) hc hq dX7_block_27 rfl rfl rfl
  · refine w_aload_n (q := 12) (i := 0) (j := 0) hc dX7_block_11 rfl rfl rfl ?_
    refine gf_X7_19 (q := 15) hc dX7_block_12 (k_0 hK) (r_0_1 hR) rfl ?_
    refine w_iload_n (q := 16) (i := 2) (j := 2) hc dX7_block_15 rfl rfl rfl ?_
    refine w_callV_Rz (q := 19) (st := []) (args := [.int a2]) (p := 6) hc (m_X2_hasPoint hK hR) dX7_block_16 ml_X7_117 cf_X2_hasPoint iv_X2_hasPoint (k_6 hK) (C := RX2) (T := TX2) (N := 13) rfl rfl (Nat.lt_of_succ_le (Nat.le_of_ble_eq_true rfl)) rfl rfl (Nat.le_of_ble_eq_true rfl) ⟨Nat.le_of_ble_eq_true rfl, Nat.le_of_ble_eq_true rfl⟩ rfl (fun q_3 => ?_)
    refine w_ifne (q := 22) (tgt := 28) hc dX7_block_19 rfl rfl ?_ ?_
    · refine w_aload_n (q := 23) (i := 0) (j := 0) hc dX7_block_22 rfl rfl rfl ?_
      refine w_iconst (q := 24) hc dX7_block_23 ci_2 rfl ?_
      refine w_callV_Wi (q := 27) (st := []) (args := [.int 2]) (p := 0) hc (m_X7_refuse hK hR) dX7_block_24 ml_X7_56 cf_X7_refuse iv_X7_refuse (k_0 hK) (C := RX7) (T := TX7) (N := 7) rfl rfl (Nat.lt_of_succ_le (Nat.le_of_ble_eq_true rfl)) rfl rfl (Nat.le_of_ble_eq_true rfl) ⟨Nat.le_of_ble_eq_true rfl, Nat.le_of_ble_eq_true rfl⟩ rfl (fun q_7 => ?_)
      exact w_ireturn (v := q_7.1) hc hq dX7_block_27 rfl rfl rfl
    · refine w_iload_n (q := 29) (i := 1) (j := 1) hc dX7_block_28 rfl rfl rfl ?_
      refine w_iload_n (q := 30) (i := 2) (j := 2) hc dX7_block_29 rfl rfl rfl ?_
      refine w_icmpne (q := 33) (tgt := 39) hc dX7_block_30 rfl rfl ?_ ?_
      · refine w_aload_n (q := 34) (i := 0) (j := 0) hc dX7_block_33 rfl rfl rfl ?_
        refine w_iconst (q := 35) hc dX7_block_34 ci_4 rfl ?_
        refine w_callV_Wi (q := 38) (st := []) (args := [.int 4]) (p := 0) hc (m_X7_refuse hK hR) dX7_block_35 ml_X7_56 cf_X7_refuse iv_X7_refuse (k_0 hK) (C := RX7) (T := TX7) (N := 7) rfl rfl (Nat.lt_of_succ_le (Nat.le_of_ble_eq_true rfl)) rfl rfl (Nat.le_of_ble_eq_true rfl) ⟨Nat.le_of_ble_eq_true rfl, Nat.le_of_ble_eq_true rfl⟩ rfl (fun q_6 => ?_)
        exact w_ireturn (v := q_6.1) hc hq dX7_block_38 rfl rfl rfl
      · refine w_aload_n (q := 40) (i := 0) (j := 0) hc dX7_block_39 rfl rfl rfl ?_
        refine w_aload_n (q := 41) (i := 0) (j := 0) hc dX7_block_40 rfl rfl rfl ?_
        refine gf_X7_19 (q := 44) hc dX7_block_41 (k_0 hK) (r_0_1 hR) rfl ?_
        refine w_iload_n (q := 45) (i := 1) (j := 1) hc dX7_block_44 rfl rfl rfl ?_
        refine w_iload_n (q := 46) (i := 2) (j := 2) hc dX7_block_45 rfl rfl rfl ?_
        refine w_callV_Wi (q := 49) (st := [.ref 0]) (args := [.int a1, .int a2]) (p := 6) hc (m_X2_blockOf hK hR) dX7_block_46 ml_X7_310 cf_X2_blockOf iv_X2_blockOf (k_6 hK) (C := RX2) (T := TX2) (N := 13) rfl rfl (Nat.lt_of_succ_le (Nat.le_of_ble_eq_true rfl)) rfl rfl (Nat.le_of_ble_eq_true rfl) ⟨Nat.le_of_ble_eq_true rfl, Nat.le_of_ble_eq_true rfl⟩ rfl (fun q_4 => ?_)
        refine w_callV_Wi (q := 52) (st := []) (args := [.int q_4.1]) (p := 0) hc (m_X7_tell hK hR) dX7_block_49 ml_X7_86 cf_X7_tell iv_X7_tell (k_0 hK) (C := RX7) (T := TX7) (N := 7) rfl rfl (Nat.lt_of_succ_le (Nat.le_of_ble_eq_true rfl)) rfl rfl (Nat.le_of_ble_eq_true rfl) ⟨Nat.le_of_ble_eq_true rfl, Nat.le_of_ble_eq_true rfl⟩ rfl (fun q_5 => ?_)
        exact w_ireturn (v := q_5.1) hc hq dX7_block_52 rfl rfl rfl
set_option maxRecDepth 100000 in
set_option maxHeartbeats 4000000 in
theorem m_X7_anywhere {l : Launch} {K : KT} {R : MR} {rm : Nat} {I : MI} {L : ML} (hK0 : K = lK rm) (hR0 : R = lR rm) : MFg l yX7_anywhere cX7_anywhere 1 (some .int) 2 41 [.ref 0] K R I L anIW meW (f_X7_anywhere I L) := by
  refine mf_of (plainFor_of_name (by decide)) (Nat.le_of_ble_eq_true rfl) ?_
  intro G hc _ hK1 hR1 hn hq
  have hK := hK1.trans hK0
  have hR := hR1.trans hR0
  have hN : ∀ i, Nat.blt i 1 = true → i < gnL G := fun i h => hn ▸ Nat.blt_eq.mp h
  unfold f_X7_anywhere
  show WW G 0 [(0, .ref 0)] [] I L _
  refine w_aload_n (q := 1) (i := 0) (j := 0) hc dX7_anywhere_0 rfl rfl rfl ?_
  refine gf_X7_19 (q := 4) hc dX7_anywhere_1 (k_0 hK) (r_0_1 hR) rfl ?_
  refine gf_X7_95 (q := 7) hc dX7_anywhere_4 (k_6 hK) rfl ?_
  refine w_ifne (q := 10) (tgt := 16) hc dX7_anywhere_7 rfl rfl ?_ ?_
  · refine w_aload_n (q := 11) (i := 0) (j := 0) hc dX7_anywhere_10 rfl rfl rfl ?_
    refine w_iconst (q := 12) hc dX7_anywhere_11 ci_5 rfl ?_
    refine w_callV_Wi (q := 15) (st := []) (args := [.int 5]) (p := 0) hc (m_X7_refuse hK hR) dX7_anywhere_12 ml_X7_56 cf_X7_refuse iv_X7_refuse (k_0 hK) (C := RX7) (T := TX7) (N := 7) rfl rfl (Nat.lt_of_succ_le (Nat.le_of_ble_eq_true rfl)) rfl rfl (Nat.le_of_ble_eq_true rfl) ⟨Nat.le_of_ble_eq_true rfl, Nat.le_of_ble_eq_true rfl⟩ rfl (fun q_3 => ?_)
    exact w_ireturn (v := q_3.1) hc hq dX7_anywhere_15 rfl rfl rfl
  · refine w_aload_n (q := 17) (i := 0) (j := 0) hc dX7_anywhere_16 rfl rfl rfl ?_
    refine w_aload_n (q := 18) (i := 0) (j := 0) hc dX7_anywhere_17 rfl rfl rfl ?_
    refine gf_X7_19 (q := 21) hc dX7_anywhere_18 (k_0 hK) (r_0_1 hR) rfl ?_
    refine gf_X7_163 (q := 24) hc dX7_anywhere_21 (k_6 hK) (r_6_3 hR) rfl ?_
    refine w_callV_Ri (q := 27) (st := [.ref 0]) (args := []) (p := 8) hc (m_X0_countFree hK hR (ch_8)) dX7_anywhere_24 ml_X7_313 cf_X0_countFree iv_X0_countFree (k_8 hK) (C := RX0) (T := TX0) (N := 8) rfl rfl (Nat.lt_of_succ_le (Nat.le_of_ble_eq_true rfl)) rfl rfl (Nat.le_of_ble_eq_true rfl) ⟨Nat.le_of_ble_eq_true rfl, Nat.le_of_ble_eq_true rfl⟩ rfl (fun q_1 => ?_)
    refine w_callV_Wi (q := 30) (st := []) (args := [.int q_1]) (p := 0) hc (m_X7_tell hK hR) dX7_anywhere_27 ml_X7_86 cf_X7_tell iv_X7_tell (k_0 hK) (C := RX7) (T := TX7) (N := 7) rfl rfl (Nat.lt_of_succ_le (Nat.le_of_ble_eq_true rfl)) rfl rfl (Nat.le_of_ble_eq_true rfl) ⟨Nat.le_of_ble_eq_true rfl, Nat.le_of_ble_eq_true rfl⟩ rfl (fun q_2 => ?_)
    exact w_ireturn (v := q_2.1) hc hq dX7_anywhere_30 rfl rfl rfl
set_option maxRecDepth 100000 in
set_option maxHeartbeats 4000000 in
theorem m_X7_keepPast {l : Launch} {K : KT} {R : MR} {rm : Nat} {I : MI} {L : ML} (hK0 : K = lK rm) (hR0 : R = lR rm) : MFg l yX7_keepPast cX7_keepPast 1 none 3 105 [.ref 0] K R I L anV meV (f_X7_keepPast I L) := by
  refine mf_of (plainFor_of_name (by decide)) (Nat.le_of_ble_eq_true rfl) ?_
  intro G hc _ hK1 hR1 hn hq
  have hK := hK1.trans hK0
  have hR := hR1.trans hR0
  have hN : ∀ i, Nat.blt i 1 = true → i < gnL G := fun i h => hn ▸ Nat.blt_eq.mp h
  unfold f_X7_keepPast
  show WW G 0 [(0, .ref 0)] [] I L _
  refine w_aload_n (q := 1) (i := 0) (j := 0) hc dX7_keepPast_0 rfl rfl rfl ?_
  refine gf_X7_26 (q := 4) hc dX7_keepPast_1 (k_0 hK) (r_0_2 hR) rfl ?_
  refine w_aload_n (q := 5) (i := 0) (j := 0) hc dX7_keepPast_4 rfl rfl rfl ?_
  refine gf_X7_38 (q := 8) hc dX7_keepPast_5 (k_0 hK) rfl ?_
  refine w_aload_n (q := 9) (i := 0) (j := 0) hc dX7_keepPast_8 rfl rfl rfl ?_
  refine gf_X7_19 (q := 12) hc dX7_keepPast_9 (k_0 hK) (r_0_1 hR) rfl ?_
  refine gf_X7_380 (q := 15) hc dX7_keepPast_12 (k_6 hK) (r_6_2 hR) rfl ?_
  refine w_aload_n (q := 16) (i := 0) (j := 0) hc dX7_keepPast_15 rfl rfl rfl ?_
  refine gf_X7_19 (q := 19) hc dX7_keepPast_16 (k_0 hK) (r_0_1 hR) rfl ?_
  refine gf_X7_96 (q := 22) hc dX7_keepPast_19 (k_6 hK) rfl ?_
  refine w_callV_Wv (q := 25) (st := []) (args := [.long (L 0 5), .ref 7, .int (I 6 1)]) (p := 37) hc (m_X3_keep hK hR (kB hK (k_7 hK))) dX7_keepPast_22 ml_X7_381 cf_X3_keep iv_X3_keep (k_37 hK) (C := RX3) (T := TX3) (N := 7) rfl rfl (Nat.lt_of_succ_le (Nat.le_of_ble_eq_true rfl)) rfl rfl (Nat.le_of_ble_eq_true rfl) ⟨Nat.le_of_ble_eq_true rfl, Nat.le_of_ble_eq_true rfl⟩ rfl (fun q_1 => ?_)
  exact w_return hc hq dX7_keepPast_25 rfl rfl
set_option maxRecDepth 100000 in
set_option maxHeartbeats 4000000 in
theorem m_X7_countAway {l : Launch} {K : KT} {R : MR} {rm : Nat} {I : MI} {L : ML} (hK0 : K = lK rm) (hR0 : R = lR rm) : MFg l yX7_countAway cX7_countAway 1 (some .int) 2 46 [.ref 0] K R I L anI (meR I L) (f_X7_countAway I L) := by
  refine mf_of (plainFor_of_name (by decide)) (Nat.le_of_ble_eq_true rfl) ?_
  intro G hc _ hK1 hR1 hn hq
  have hK := hK1.trans hK0
  have hR := hR1.trans hR0
  have hN : ∀ i, Nat.blt i 1 = true → i < gnL G := fun i h => hn ▸ Nat.blt_eq.mp h
  unfold f_X7_countAway
  show WW G 0 [(0, .ref 0)] [] I L _
  refine w_aload_n (q := 1) (i := 0) (j := 0) hc dX7_countAway_0 rfl rfl rfl ?_
  refine gf_X7_38 (q := 4) hc dX7_countAway_1 (k_0 hK) rfl ?_
  refine w_aload_n (q := 5) (i := 0) (j := 0) hc dX7_countAway_4 rfl rfl rfl ?_
  refine gf_X7_19 (q := 8) hc dX7_countAway_5 (k_0 hK) (r_0_1 hR) rfl ?_
  refine gf_X7_95 (q := 11) hc dX7_countAway_8 (k_6 hK) rfl ?_
  refine w_callS_Ri (q := 14) (st := []) (args := [.long (L 0 5), .int (I 6 0)]) hc (m_X6_moved hK hR) dX7_countAway_11 ml_X7_153 cf_X6_moved st_X6_moved rfl rfl (Nat.le_of_ble_eq_true rfl) ⟨Nat.le_of_ble_eq_true rfl, Nat.le_of_ble_eq_true rfl⟩ rfl (fun q_1 => ?_)
  refine w_callS_Ri (q := 17) (st := []) (args := [.int q_1]) hc (m_J6_bitCount_0f7a4 hK hR) dX7_countAway_14 ml_X7_375 cf_J6_bitCount_0f7a4 st_J6_bitCount_0f7a4 rfl rfl (Nat.le_of_ble_eq_true rfl) ⟨Nat.le_of_ble_eq_true rfl, Nat.le_of_ble_eq_true rfl⟩ rfl (fun q_2 => ?_)
  exact w_ireturn (v := q_2) hc hq dX7_countAway_17 rfl rfl rfl
set_option maxRecDepth 100000 in
set_option maxHeartbeats 4000000 in
theorem m_X7_turn {l : Launch} {K : KT} {R : MR} {rm : Nat} {a1 : Int32} {I : MI} {L : ML} (hK0 : K = lK rm) (hR0 : R = lR rm) : MFg l yX7_turn cX7_turn 2 (some .int) 4 125 [.ref 0, .int a1] K R I L anIW meW (f_X7_turn a1 I L) := by
  refine mf_of (plainFor_of_name (by decide)) (Nat.le_of_ble_eq_true rfl) ?_
  intro G hc _ hK1 hR1 hn hq
  have hK := hK1.trans hK0
  have hR := hR1.trans hR0
  have hN : ∀ i, Nat.blt i 2 = true → i < gnL G := fun i h => hn ▸ Nat.blt_eq.mp h
  unfold f_X7_turn
  show WW G 0 [(0, .ref 0), (1, .int a1)] [] I L _
  refine w_aload_n (q := 1) (i := 0) (j := 0) hc dX7_turn_0 rfl rfl rfl ?_
  refine gf_X7_19 (q := 4) hc dX7_turn_1 (k_0 hK) (r_0_1 hR) rfl ?_
  refine w_iload_n (q := 5) (i := 1) (j := 1) hc dX7_turn_4 rfl rfl rfl ?_
  refine w_callV_Rz (q := 8) (st := []) (args := [.int a1]) (p := 6) hc (m_X2_hasStep hK hR) dX7_turn_5 ml_X7_104 cf_X2_hasStep iv_X2_hasStep (k_6 hK) (C := RX2) (T := TX2) (N := 13) rfl rfl (Nat.lt_of_succ_le (Nat.le_of_ble_eq_true rfl)) rfl rfl (Nat.le_of_ble_eq_true rfl) ⟨Nat.le_of_ble_eq_true rfl, Nat.le_of_ble_eq_true rfl⟩ rfl (fun q_1 => ?_)
  refine w_ifne (q := 11) (tgt := 17) hc dX7_turn_8 rfl rfl ?_ ?_
  · refine w_aload_n (q := 12) (i := 0) (j := 0) hc dX7_turn_11 rfl rfl rfl ?_
    refine w_iconst (q := 13) hc dX7_turn_12 ci_2 rfl ?_
    refine w_callV_Wi (q := 16) (st := []) (args := [.int 2]) (p := 0) hc (m_X7_refuse hK hR) dX7_turn_13 ml_X7_56 cf_X7_refuse iv_X7_refuse (k_0 hK) (C := RX7) (T := TX7) (N := 7) rfl rfl (Nat.lt_of_succ_le (Nat.le_of_ble_eq_true rfl)) rfl rfl (Nat.le_of_ble_eq_true rfl) ⟨Nat.le_of_ble_eq_true rfl, Nat.le_of_ble_eq_true rfl⟩ rfl (fun q_8 => ?_)
    exact w_ireturn (v := q_8.1) hc hq dX7_turn_16 rfl rfl rfl
  · refine w_aload_n (q := 18) (i := 0) (j := 0) hc dX7_turn_17 rfl rfl rfl ?_
    refine w_callV_Wv (q := 21) (st := []) (args := []) (p := 0) hc (m_X7_keepPast hK hR) dX7_turn_18 ml_X7_337 cf_X7_keepPast iv_X7_keepPast (k_0 hK) (C := RX7) (T := TX7) (N := 7) rfl rfl (Nat.lt_of_succ_le (Nat.le_of_ble_eq_true rfl)) rfl rfl (Nat.le_of_ble_eq_true rfl) ⟨Nat.le_of_ble_eq_true rfl, Nat.le_of_ble_eq_true rfl⟩ rfl (fun q_2 => ?_)
    refine w_aload_n (q := 22) (i := 0) (j := 0) hc dX7_turn_21 rfl rfl rfl ?_
    refine w_aload_n (q := 23) (i := 0) (j := 0) hc dX7_turn_22 rfl rfl rfl ?_
    refine gf_X7_38 (q := 26) hc dX7_turn_23 (k_0 hK) rfl ?_
    refine w_aload_n (q := 27) (i := 0) (j := 0) hc dX7_turn_26 rfl rfl rfl ?_
    refine gf_X7_19 (q := 30) hc dX7_turn_27 (k_0 hK) (r_0_1 hR) rfl ?_
    refine w_iload_n (q := 31) (i := 1) (j := 1) hc dX7_turn_30 rfl rfl rfl ?_
    refine w_callV_Rl (q := 34) (st := [.long (q_2.2 0 5), .ref 0]) (args := [.int a1]) (p := 6) hc (m_X2_turnOf hK hR) dX7_turn_31 ml_X7_107 cf_X2_turnOf iv_X2_turnOf (k_6 hK) (C := RX2) (T := TX2) (N := 13) rfl rfl (Nat.lt_of_succ_le (Nat.le_of_ble_eq_true rfl)) rfl rfl (Nat.le_of_ble_eq_true rfl) ⟨Nat.le_of_ble_eq_true rfl, Nat.le_of_ble_eq_true rfl⟩ rfl (fun q_3 => ?_)
    refine w_aload_n (q := 35) (i := 0) (j := 0) hc dX7_turn_34 rfl rfl rfl ?_
    refine gf_X7_19 (q := 38) hc dX7_turn_35 (k_0 hK) (r_0_1 hR) rfl ?_
    refine gf_X7_95 (q := 41) hc dX7_turn_38 (k_6 hK) rfl ?_
    refine w_callS_Rl (q := 44) (st := [.ref 0]) (args := [.long (q_2.2 0 5), .long q_3, .int (q_2.1 6 0)]) hc (m_X6_compose hK hR) dX7_turn_41 ml_X7_124 cf_X6_compose st_X6_compose rfl rfl (Nat.le_of_ble_eq_true rfl) ⟨Nat.le_of_ble_eq_true rfl, Nat.le_of_ble_eq_true rfl⟩ rfl (fun q_4 => ?_)
    refine pf_X7_38 (q := 47) hc dX7_turn_44 (k_0 hK) rfl (fun L_5 => ?_)
    refine w_aload_n (q := 48) (i := 0) (j := 0) hc dX7_turn_47 rfl rfl rfl ?_
    refine w_aload_n (q := 49) (i := 0) (j := 0) hc dX7_turn_48 rfl rfl rfl ?_
    refine gf_X7_19 (q := 52) hc dX7_turn_49 (k_0 hK) (r_0_1 hR) rfl ?_
    refine gf_X7_95 (q := 55) hc dX7_turn_52 (k_6 hK) rfl ?_
    refine w_aload_n (q := 56) (i := 0) (j := 0) hc dX7_turn_55 rfl rfl rfl ?_
    refine w_callV_Ri (q := 59) (st := [.int (q_2.1 6 0), .ref 0]) (args := []) (p := 0) hc (m_X7_countAway hK hR) dX7_turn_56 ml_X7_340 cf_X7_countAway iv_X7_countAway (k_0 hK) (C := RX7) (T := TX7) (N := 7) rfl rfl (Nat.lt_of_succ_le (Nat.le_of_ble_eq_true rfl)) rfl rfl (Nat.le_of_ble_eq_true rfl) ⟨Nat.le_of_ble_eq_true rfl, Nat.le_of_ble_eq_true rfl⟩ rfl (fun q_6 => ?_)
    refine w_isub (q := 60) hc dX7_turn_59  rfl ?_
    refine w_callV_Wi (q := 63) (st := []) (args := [.int ((q_2.1 6 0) - q_6)]) (p := 0) hc (m_X7_tell hK hR) dX7_turn_60 ml_X7_86 cf_X7_tell iv_X7_tell (k_0 hK) (C := RX7) (T := TX7) (N := 7) rfl rfl (Nat.lt_of_succ_le (Nat.le_of_ble_eq_true rfl)) rfl rfl (Nat.le_of_ble_eq_true rfl) ⟨Nat.le_of_ble_eq_true rfl, Nat.le_of_ble_eq_true rfl⟩ rfl (fun q_7 => ?_)
    exact w_ireturn (v := q_7.1) hc hq dX7_turn_63 rfl rfl rfl
set_option maxRecDepth 100000 in
set_option maxHeartbeats 4000000 in
theorem m_X7_place {l : Launch} {K : KT} {R : MR} {rm : Nat} {a1 : Int64} {I : MI} {L : ML} (hK0 : K = lK rm) (hR0 : R = lR rm) : MFg l yX7_place cX7_place 5 (some .int) 4 125 [.ref 0, .long a1] K R I L anIW meW (f_X7_place a1 I L) := by
  refine mf_of (plainFor_of_name (by decide)) (Nat.le_of_ble_eq_true rfl) ?_
  intro G hc _ hK1 hR1 hn hq
  have hK := hK1.trans hK0
  have hR := hR1.trans hR0
  have hN : ∀ i, Nat.blt i 5 = true → i < gnL G := fun i h => hn ▸ Nat.blt_eq.mp h
  unfold f_X7_place
  show WW G 0 [(0, .ref 0), (1, .long a1)] [] I L _
  refine w_aload_n (q := 1) (i := 0) (j := 0) hc dX7_place_0 rfl rfl rfl ?_
  refine w_lload_n (q := 2) (i := 1) (j := 1) hc dX7_place_1 rfl rfl rfl ?_
  refine w_callV_Rl (q := 5) (st := []) (args := [.long a1]) (p := 0) hc (m_X7_read hK hR) dX7_place_2 ml_X7_114 cf_X7_read iv_X7_read (k_0 hK) (C := RX7) (T := TX7) (N := 7) rfl rfl (Nat.lt_of_succ_le (Nat.le_of_ble_eq_true rfl)) rfl rfl (Nat.le_of_ble_eq_true rfl) ⟨Nat.le_of_ble_eq_true rfl, Nat.le_of_ble_eq_true rfl⟩ rfl (fun q_1 => ?_)
  refine w_lstore_n (q := 6) (i := 3) (lv' := [(3, .long q_1), (0, .ref 0), (1, .long a1)]) hc dX7_place_5 rfl (hN 4 rfl) rfl rfl ?_
  refine w_lload_n (q := 7) (i := 3) (j := 0) hc dX7_place_6 rfl rfl rfl ?_
  refine w_lconst (q := 8) hc dX7_place_7 cl_0 rfl ?_
  refine w_lcmp (q := 9) hc dX7_place_8  rfl ?_
  refine w_ifge (q := 12) (tgt := 18) hc dX7_place_9 rfl rfl ?_ ?_
  · refine w_lload_n (q := 19) (i := 3) (j := 0) hc dX7_place_18 rfl rfl rfl ?_
    refine w_aload_n (q := 20) (i := 0) (j := 1) hc dX7_place_19 rfl rfl rfl ?_
    refine gf_X7_38 (q := 23) hc dX7_place_20 (k_0 hK) rfl ?_
    refine w_lcmp (q := 24) hc dX7_place_23  rfl ?_
    refine w_ifne (q := 27) (tgt := 33) hc dX7_place_24 rfl rfl ?_ ?_
    · refine w_aload_n (q := 28) (i := 0) (j := 1) hc dX7_place_27 rfl rfl rfl ?_
      refine w_iconst (q := 29) hc dX7_place_28 ci_4 rfl ?_
      refine w_callV_Wi (q := 32) (st := []) (args := [.int 4]) (p := 0) hc (m_X7_refuse hK hR) dX7_place_29 ml_X7_56 cf_X7_refuse iv_X7_refuse (k_0 hK) (C := RX7) (T := TX7) (N := 7) rfl rfl (Nat.lt_of_succ_le (Nat.le_of_ble_eq_true rfl)) rfl rfl (Nat.le_of_ble_eq_true rfl) ⟨Nat.le_of_ble_eq_true rfl, Nat.le_of_ble_eq_true rfl⟩ rfl (fun q_6 => ?_)
      exact w_ireturn (v := q_6.1) hc hq dX7_place_32 rfl rfl rfl
    · refine w_aload_n (q := 34) (i := 0) (j := 1) hc dX7_place_33 rfl rfl rfl ?_
      refine w_callV_Wv (q := 37) (st := []) (args := []) (p := 0) hc (m_X7_keepPast hK hR) dX7_place_34 ml_X7_337 cf_X7_keepPast iv_X7_keepPast (k_0 hK) (C := RX7) (T := TX7) (N := 7) rfl rfl (Nat.lt_of_succ_le (Nat.le_of_ble_eq_true rfl)) rfl rfl (Nat.le_of_ble_eq_true rfl) ⟨Nat.le_of_ble_eq_true rfl, Nat.le_of_ble_eq_true rfl⟩ rfl (fun q_2 => ?_)
      refine w_aload_n (q := 38) (i := 0) (j := 1) hc dX7_place_37 rfl rfl rfl ?_
      refine w_lload_n (q := 39) (i := 3) (j := 0) hc dX7_place_38 rfl rfl rfl ?_
      refine pf_X7_38 (q := 42) hc dX7_place_39 (k_0 hK) rfl (fun L_3 => ?_)
      refine w_aload_n (q := 43) (i := 0) (j := 1) hc dX7_place_42 rfl rfl rfl ?_
      refine w_aload_n (q := 44) (i := 0) (j := 1) hc dX7_place_43 rfl rfl rfl ?_
      refine gf_X7_19 (q := 47) hc dX7_place_44 (k_0 hK) (r_0_1 hR) rfl ?_
      refine gf_X7_163 (q := 50) hc dX7_place_47 (k_6 hK) (r_6_3 hR) rfl ?_
      refine w_lload_n (q := 51) (i := 3) (j := 0) hc dX7_place_50 rfl rfl rfl ?_
      refine w_callV_Ri (q := 54) (st := [.ref 0]) (args := [.long q_1]) (p := 8) hc (m_X0_follow hK hR (ch_8)) dX7_place_51 ml_X7_184 cf_X0_follow iv_X0_follow (k_8 hK) (C := RX0) (T := TX0) (N := 8) rfl rfl (Nat.lt_of_succ_le (Nat.le_of_ble_eq_true rfl)) rfl rfl (Nat.le_of_ble_eq_true rfl) ⟨Nat.le_of_ble_eq_true rfl, Nat.le_of_ble_eq_true rfl⟩ rfl (fun q_4 => ?_)
      refine w_callV_Wi (q := 57) (st := []) (args := [.int q_4]) (p := 0) hc (m_X7_tell hK hR) dX7_place_54 ml_X7_86 cf_X7_tell iv_X7_tell (k_0 hK) (C := RX7) (T := TX7) (N := 7) rfl rfl (Nat.lt_of_succ_le (Nat.le_of_ble_eq_true rfl)) rfl rfl (Nat.le_of_ble_eq_true rfl) ⟨Nat.le_of_ble_eq_true rfl, Nat.le_of_ble_eq_true rfl⟩ rfl (fun q_5 => ?_)
      exact w_ireturn (v := q_5.1) hc hq dX7_place_57 rfl rfl rfl
  · refine w_aload_n (q := 13) (i := 0) (j := 1) hc dX7_place_12 rfl rfl rfl ?_
    refine w_iconst (q := 14) hc dX7_place_13 ci_1 rfl ?_
    refine w_callV_Wi (q := 17) (st := []) (args := [.int 1]) (p := 0) hc (m_X7_refuse hK hR) dX7_place_14 ml_X7_56 cf_X7_refuse iv_X7_refuse (k_0 hK) (C := RX7) (T := TX7) (N := 7) rfl rfl (Nat.lt_of_succ_le (Nat.le_of_ble_eq_true rfl)) rfl rfl (Nat.le_of_ble_eq_true rfl) ⟨Nat.le_of_ble_eq_true rfl, Nat.le_of_ble_eq_true rfl⟩ rfl (fun q_7 => ?_)
    exact w_ireturn (v := q_7.1) hc hq dX7_place_17 rfl rfl rfl
set_option maxRecDepth 100000 in
set_option maxHeartbeats 4000000 in
theorem m_X7_home {l : Launch} {K : KT} {R : MR} {rm : Nat} {I : MI} {L : ML} (hK0 : K = lK rm) (hR0 : R = lR rm) : MFg l yX7_home cX7_home 2 (some .int) 4 125 [.ref 0] K R I L anIW meW (f_X7_home I L) := by
  refine mf_of (plainFor_of_name (by decide)) (Nat.le_of_ble_eq_true rfl) ?_
  intro G hc _ hK1 hR1 hn hq
  have hK := hK1.trans hK0
  have hR := hR1.trans hR0
  have hN : ∀ i, Nat.blt i 2 = true → i < gnL G := fun i h => hn ▸ Nat.blt_eq.mp h
  unfold f_X7_home
  show WW G 0 [(0, .ref 0)] [] I L _
  refine w_aload_n (q := 1) (i := 0) (j := 0) hc dX7_home_0 rfl rfl rfl ?_
  refine gf_X7_19 (q := 4) hc dX7_home_1 (k_0 hK) (r_0_1 hR) rfl ?_
  refine gf_X7_95 (q := 7) hc dX7_home_4 (k_6 hK) rfl ?_
  refine w_ifne (q := 10) (tgt := 16) hc dX7_home_7 rfl rfl ?_ ?_
  · refine w_aload_n (q := 11) (i := 0) (j := 0) hc dX7_home_10 rfl rfl rfl ?_
    refine w_iconst (q := 12) hc dX7_home_11 ci_5 rfl ?_
    refine w_callV_Wi (q := 15) (st := []) (args := [.int 5]) (p := 0) hc (m_X7_refuse hK hR) dX7_home_12 ml_X7_56 cf_X7_refuse iv_X7_refuse (k_0 hK) (C := RX7) (T := TX7) (N := 7) rfl rfl (Nat.lt_of_succ_le (Nat.le_of_ble_eq_true rfl)) rfl rfl (Nat.le_of_ble_eq_true rfl) ⟨Nat.le_of_ble_eq_true rfl, Nat.le_of_ble_eq_true rfl⟩ rfl (fun q_8 => ?_)
    exact w_ireturn (v := q_8.1) hc hq dX7_home_15 rfl rfl rfl
  · refine w_aload_n (q := 17) (i := 0) (j := 0) hc dX7_home_16 rfl rfl rfl ?_
    refine w_aload_n (q := 18) (i := 0) (j := 0) hc dX7_home_17 rfl rfl rfl ?_
    refine gf_X7_38 (q := 21) hc dX7_home_18 (k_0 hK) rfl ?_
    refine w_callV_Rz (q := 24) (st := []) (args := [.long (L 0 5)]) (p := 0) hc (m_X7_isHome hK hR) dX7_home_21 ml_X7_100 cf_X7_isHome iv_X7_isHome (k_0 hK) (C := RX7) (T := TX7) (N := 7) rfl rfl (Nat.lt_of_succ_le (Nat.le_of_ble_eq_true rfl)) rfl rfl (Nat.le_of_ble_eq_true rfl) ⟨Nat.le_of_ble_eq_true rfl, Nat.le_of_ble_eq_true rfl⟩ rfl (fun q_1 => ?_)
    refine w_ifeq (q := 27) (tgt := 33) hc dX7_home_24 rfl rfl ?_ ?_
    · refine w_aload_n (q := 34) (i := 0) (j := 0) hc dX7_home_33 rfl rfl rfl ?_
      refine w_callV_Wv (q := 37) (st := []) (args := []) (p := 0) hc (m_X7_keepPast hK hR) dX7_home_34 ml_X7_337 cf_X7_keepPast iv_X7_keepPast (k_0 hK) (C := RX7) (T := TX7) (N := 7) rfl rfl (Nat.lt_of_succ_le (Nat.le_of_ble_eq_true rfl)) rfl rfl (Nat.le_of_ble_eq_true rfl) ⟨Nat.le_of_ble_eq_true rfl, Nat.le_of_ble_eq_true rfl⟩ rfl (fun q_2 => ?_)
      refine w_aload_n (q := 38) (i := 0) (j := 0) hc dX7_home_37 rfl rfl rfl ?_
      refine w_callV_Ri (q := 41) (st := []) (args := []) (p := 0) hc (m_X7_countAway hK hR) dX7_home_38 ml_X7_340 cf_X7_countAway iv_X7_countAway (k_0 hK) (C := RX7) (T := TX7) (N := 7) rfl rfl (Nat.lt_of_succ_le (Nat.le_of_ble_eq_true rfl)) rfl rfl (Nat.le_of_ble_eq_true rfl) ⟨Nat.le_of_ble_eq_true rfl, Nat.le_of_ble_eq_true rfl⟩ rfl (fun q_3 => ?_)
      refine w_istore_n (q := 42) (i := 1) (lv' := [(1, .int q_3), (0, .ref 0)]) hc dX7_home_41 rfl (hN 1 rfl) rfl rfl ?_
      refine w_aload_n (q := 43) (i := 0) (j := 1) hc dX7_home_42 rfl rfl rfl ?_
      refine w_aload_n (q := 44) (i := 0) (j := 1) hc dX7_home_43 rfl rfl rfl ?_
      refine gf_X7_19 (q := 47) hc dX7_home_44 (k_0 hK) (r_0_1 hR) rfl ?_
      refine gf_X7_95 (q := 50) hc dX7_home_47 (k_6 hK) rfl ?_
      refine w_callS_Rl (q := 53) (st := [.ref 0]) (args := [.int (q_2.1 6 0)]) hc (m_X6_identity hK hR) dX7_home_50 ml_X7_77 cf_X6_identity st_X6_identity rfl rfl (Nat.le_of_ble_eq_true rfl) ⟨Nat.le_of_ble_eq_true rfl, Nat.le_of_ble_eq_true rfl⟩ rfl (fun q_4 => ?_)
      refine pf_X7_38 (q := 56) hc dX7_home_53 (k_0 hK) rfl (fun L_5 => ?_)
      refine w_aload_n (q := 57) (i := 0) (j := 1) hc dX7_home_56 rfl rfl rfl ?_
      refine w_iload_n (q := 58) (i := 1) (j := 0) hc dX7_home_57 rfl rfl rfl ?_
      refine w_callV_Wi (q := 61) (st := []) (args := [.int q_3]) (p := 0) hc (m_X7_tell hK hR) dX7_home_58 ml_X7_86 cf_X7_tell iv_X7_tell (k_0 hK) (C := RX7) (T := TX7) (N := 7) rfl rfl (Nat.lt_of_succ_le (Nat.le_of_ble_eq_true rfl)) rfl rfl (Nat.le_of_ble_eq_true rfl) ⟨Nat.le_of_ble_eq_true rfl, Nat.le_of_ble_eq_true rfl⟩ rfl (fun q_6 => ?_)
      exact w_ireturn (v := q_6.1) hc hq dX7_home_61 rfl rfl rfl
    · refine w_aload_n (q := 28) (i := 0) (j := 0) hc dX7_home_27 rfl rfl rfl ?_
      refine w_iconst (q := 29) hc dX7_home_28 ci_4 rfl ?_
      refine w_callV_Wi (q := 32) (st := []) (args := [.int 4]) (p := 0) hc (m_X7_refuse hK hR) dX7_home_29 ml_X7_56 cf_X7_refuse iv_X7_refuse (k_0 hK) (C := RX7) (T := TX7) (N := 7) rfl rfl (Nat.lt_of_succ_le (Nat.le_of_ble_eq_true rfl)) rfl rfl (Nat.le_of_ble_eq_true rfl) ⟨Nat.le_of_ble_eq_true rfl, Nat.le_of_ble_eq_true rfl⟩ rfl (fun q_7 => ?_)
      exact w_ireturn (v := q_7.1) hc hq dX7_home_32 rfl rfl rfl
set_option maxRecDepth 100000 in
set_option maxHeartbeats 4000000 in
theorem m_X7_add {l : Launch} {K : KT} {R : MR} {rm : Nat} {a1 : Int64} {I : MI} {L : ML} (hK0 : K = lK rm) (hR0 : R = lR rm) : MFg l yX7_add cX7_add 5 (some .int) 7 180 [.ref 0, .long a1] K R I L anIW meW (f_X7_add a1 I L) := by
  refine mf_of (plainFor_of_name (by decide)) (Nat.le_of_ble_eq_true rfl) ?_
  intro G hc _ hK1 hR1 hn hq
  have hK := hK1.trans hK0
  have hR := hR1.trans hR0
  have hN : ∀ i, Nat.blt i 5 = true → i < gnL G := fun i h => hn ▸ Nat.blt_eq.mp h
  unfold f_X7_add
  show WW G 0 [(0, .ref 0), (1, .long a1)] [] I L _
  refine w_aload_n (q := 1) (i := 0) (j := 0) hc dX7_add_0 rfl rfl rfl ?_
  refine w_lload_n (q := 2) (i := 1) (j := 1) hc dX7_add_1 rfl rfl rfl ?_
  refine w_callV_Rl (q := 5) (st := []) (args := [.long a1]) (p := 0) hc (m_X7_read hK hR) dX7_add_2 ml_X7_114 cf_X7_read iv_X7_read (k_0 hK) (C := RX7) (T := TX7) (N := 7) rfl rfl (Nat.lt_of_succ_le (Nat.le_of_ble_eq_true rfl)) rfl rfl (Nat.le_of_ble_eq_true rfl) ⟨Nat.le_of_ble_eq_true rfl, Nat.le_of_ble_eq_true rfl⟩ rfl (fun q_1 => ?_)
  refine w_lstore_n (q := 6) (i := 3) (lv' := [(3, .long q_1), (0, .ref 0), (1, .long a1)]) hc dX7_add_5 rfl (hN 4 rfl) rfl rfl ?_
  refine w_lload_n (q := 7) (i := 3) (j := 0) hc dX7_add_6 rfl rfl rfl ?_
  refine w_lconst (q := 8) hc dX7_add_7 cl_0 rfl ?_
  refine w_lcmp (q := 9) hc dX7_add_8  rfl ?_
  refine w_ifge (q := 12) (tgt := 18) hc dX7_add_9 rfl rfl ?_ ?_
  · refine w_aload_n (q := 19) (i := 0) (j := 1) hc dX7_add_18 rfl rfl rfl ?_
    refine gf_X7_19 (q := 22) hc dX7_add_19 (k_0 hK) (r_0_1 hR) rfl ?_
    refine gf_X7_96 (q := 25) hc dX7_add_22 (k_6 hK) rfl ?_
    refine w_bipush (q := 27) hc dX7_add_25 cb_6 rfl ?_
    refine w_icmplt (q := 30) (tgt := 36) hc dX7_add_27 rfl rfl ?_ ?_
    · refine w_aload_n (q := 37) (i := 0) (j := 1) hc dX7_add_36 rfl rfl rfl ?_
      refine w_callV_Wv (q := 40) (st := []) (args := []) (p := 0) hc (m_X7_keepPast hK hR) dX7_add_37 ml_X7_337 cf_X7_keepPast iv_X7_keepPast (k_0 hK) (C := RX7) (T := TX7) (N := 7) rfl rfl (Nat.lt_of_succ_le (Nat.le_of_ble_eq_true rfl)) rfl rfl (Nat.le_of_ble_eq_true rfl) ⟨Nat.le_of_ble_eq_true rfl, Nat.le_of_ble_eq_true rfl⟩ rfl (fun q_2 => ?_)
      refine w_aload_n (q := 41) (i := 0) (j := 1) hc dX7_add_40 rfl rfl rfl ?_
      refine gf_X7_19 (q := 44) hc dX7_add_41 (k_0 hK) (r_0_1 hR) rfl ?_
      refine w_lload_n (q := 45) (i := 3) (j := 0) hc dX7_add_44 rfl rfl rfl ?_
      refine w_callV_Wv (q := 48) (st := []) (args := [.long q_1]) (p := 6) hc (m_X2_take hK hR) dX7_add_45 ml_X7_343 cf_X2_take iv_X2_take (k_6 hK) (C := RX2) (T := TX2) (N := 13) rfl rfl (Nat.lt_of_succ_le (Nat.le_of_ble_eq_true rfl)) rfl rfl (Nat.le_of_ble_eq_true rfl) ⟨Nat.le_of_ble_eq_true rfl, Nat.le_of_ble_eq_true rfl⟩ rfl (fun q_3 => ?_)
      refine w_aload_n (q := 49) (i := 0) (j := 1) hc dX7_add_48 rfl rfl rfl ?_
      refine w_aload_n (q := 50) (i := 0) (j := 1) hc dX7_add_49 rfl rfl rfl ?_
      refine gf_X7_19 (q := 53) hc dX7_add_50 (k_0 hK) (r_0_1 hR) rfl ?_
      refine w_callV_Ri (q := 56) (st := [.ref 0]) (args := []) (p := 6) hc (m_X2_size hK hR) dX7_add_53 ml_X7_178 cf_X2_size iv_X2_size (k_6 hK) (C := RX2) (T := TX2) (N := 13) rfl rfl (Nat.lt_of_succ_le (Nat.le_of_ble_eq_true rfl)) rfl rfl (Nat.le_of_ble_eq_true rfl) ⟨Nat.le_of_ble_eq_true rfl, Nat.le_of_ble_eq_true rfl⟩ rfl (fun q_4 => ?_)
      refine w_callV_Wi (q := 59) (st := []) (args := [.int q_4]) (p := 0) hc (m_X7_tell hK hR) dX7_add_56 ml_X7_86 cf_X7_tell iv_X7_tell (k_0 hK) (C := RX7) (T := TX7) (N := 7) rfl rfl (Nat.lt_of_succ_le (Nat.le_of_ble_eq_true rfl)) rfl rfl (Nat.le_of_ble_eq_true rfl) ⟨Nat.le_of_ble_eq_true rfl, Nat.le_of_ble_eq_true rfl⟩ rfl (fun q_5 => ?_)
      exact w_ireturn (v := q_5.1) hc hq dX7_add_59 rfl rfl rfl
    · refine w_aload_n (q := 31) (i := 0) (j := 1) hc dX7_add_30 rfl rfl rfl ?_
      refine w_iconst (q := 32) hc dX7_add_31 ci_3 rfl ?_
      refine w_callV_Wi (q := 35) (st := []) (args := [.int 3]) (p := 0) hc (m_X7_refuse hK hR) dX7_add_32 ml_X7_56 cf_X7_refuse iv_X7_refuse (k_0 hK) (C := RX7) (T := TX7) (N := 7) rfl rfl (Nat.lt_of_succ_le (Nat.le_of_ble_eq_true rfl)) rfl rfl (Nat.le_of_ble_eq_true rfl) ⟨Nat.le_of_ble_eq_true rfl, Nat.le_of_ble_eq_true rfl⟩ rfl (fun q_6 => ?_)
      exact w_ireturn (v := q_6.1) hc hq dX7_add_35 rfl rfl rfl
  · refine w_aload_n (q := 13) (i := 0) (j := 1) hc dX7_add_12 rfl rfl rfl ?_
    refine w_iconst (q := 14) hc dX7_add_13 ci_1 rfl ?_
    refine w_callV_Wi (q := 17) (st := []) (args := [.int 1]) (p := 0) hc (m_X7_refuse hK hR) dX7_add_14 ml_X7_56 cf_X7_refuse iv_X7_refuse (k_0 hK) (C := RX7) (T := TX7) (N := 7) rfl rfl (Nat.lt_of_succ_le (Nat.le_of_ble_eq_true rfl)) rfl rfl (Nat.le_of_ble_eq_true rfl) ⟨Nat.le_of_ble_eq_true rfl, Nat.le_of_ble_eq_true rfl⟩ rfl (fun q_7 => ?_)
    exact w_ireturn (v := q_7.1) hc hq dX7_add_17 rfl rfl rfl
set_option maxRecDepth 100000 in
set_option maxHeartbeats 4000000 in
theorem m_X7_drop {l : Launch} {K : KT} {R : MR} {rm : Nat} {a1 : Int32} {I : MI} {L : ML} (hK0 : K = lK rm) (hR0 : R = lR rm) : MFg l yX7_drop cX7_drop 2 (some .int) 7 180 [.ref 0, .int a1] K R I L anIW meW (f_X7_drop a1 I L) := by
  refine mf_of (plainFor_of_name (by decide)) (Nat.le_of_ble_eq_true rfl) ?_
  intro G hc _ hK1 hR1 hn hq
  have hK := hK1.trans hK0
  have hR := hR1.trans hR0
  have hN : ∀ i, Nat.blt i 2 = true → i < gnL G := fun i h => hn ▸ Nat.blt_eq.mp h
  unfold f_X7_drop
  show WW G 0 [(0, .ref 0), (1, .int a1)] [] I L _
  refine w_iload_n (q := 1) (i := 1) (j := 1) hc dX7_drop_0 rfl rfl rfl ?_
  refine w_iflt (q := 4) (tgt := 15) hc dX7_drop_1 rfl rfl ?_ ?_
  · refine w_aload_n (q := 16) (i := 0) (j := 0) hc dX7_drop_15 rfl rfl rfl ?_
    refine w_iconst (q := 17) hc dX7_drop_16 ci_2 rfl ?_
    refine w_callV_Wi (q := 20) (st := []) (args := [.int 2]) (p := 0) hc (m_X7_refuse hK hR) dX7_drop_17 ml_X7_56 cf_X7_refuse iv_X7_refuse (k_0 hK) (C := RX7) (T := TX7) (N := 7) rfl rfl (Nat.lt_of_succ_le (Nat.le_of_ble_eq_true rfl)) rfl rfl (Nat.le_of_ble_eq_true rfl) ⟨Nat.le_of_ble_eq_true rfl, Nat.le_of_ble_eq_true rfl⟩ rfl (fun q_1 => ?_)
    exact w_ireturn (v := q_1.1) hc hq dX7_drop_20 rfl rfl rfl
  · refine w_iload_n (q := 5) (i := 1) (j := 1) hc dX7_drop_4 rfl rfl rfl ?_
    refine w_aload_n (q := 6) (i := 0) (j := 0) hc dX7_drop_5 rfl rfl rfl ?_
    refine gf_X7_19 (q := 9) hc dX7_drop_6 (k_0 hK) (r_0_1 hR) rfl ?_
    refine gf_X7_96 (q := 12) hc dX7_drop_9 (k_6 hK) rfl ?_
    refine w_icmplt (q := 15) (tgt := 21) hc dX7_drop_12 rfl rfl ?_ ?_
    · refine w_aload_n (q := 22) (i := 0) (j := 0) hc dX7_drop_21 rfl rfl rfl ?_
      refine w_callV_Wv (q := 25) (st := []) (args := []) (p := 0) hc (m_X7_keepPast hK hR) dX7_drop_22 ml_X7_337 cf_X7_keepPast iv_X7_keepPast (k_0 hK) (C := RX7) (T := TX7) (N := 7) rfl rfl (Nat.lt_of_succ_le (Nat.le_of_ble_eq_true rfl)) rfl rfl (Nat.le_of_ble_eq_true rfl) ⟨Nat.le_of_ble_eq_true rfl, Nat.le_of_ble_eq_true rfl⟩ rfl (fun q_2 => ?_)
      refine w_aload_n (q := 26) (i := 0) (j := 0) hc dX7_drop_25 rfl rfl rfl ?_
      refine gf_X7_19 (q := 29) hc dX7_drop_26 (k_0 hK) (r_0_1 hR) rfl ?_
      refine w_iload_n (q := 30) (i := 1) (j := 1) hc dX7_drop_29 rfl rfl rfl ?_
      refine w_callV_Wv (q := 33) (st := []) (args := [.int a1]) (p := 6) hc (m_X2_lose hK hR) dX7_drop_30 ml_X7_347 cf_X2_lose iv_X2_lose (k_6 hK) (C := RX2) (T := TX2) (N := 13) rfl rfl (Nat.lt_of_succ_le (Nat.le_of_ble_eq_true rfl)) rfl rfl (Nat.le_of_ble_eq_true rfl) ⟨Nat.le_of_ble_eq_true rfl, Nat.le_of_ble_eq_true rfl⟩ rfl (fun q_3 => ?_)
      refine w_aload_n (q := 34) (i := 0) (j := 0) hc dX7_drop_33 rfl rfl rfl ?_
      refine w_aload_n (q := 35) (i := 0) (j := 0) hc dX7_drop_34 rfl rfl rfl ?_
      refine gf_X7_19 (q := 38) hc dX7_drop_35 (k_0 hK) (r_0_1 hR) rfl ?_
      refine w_callV_Ri (q := 41) (st := [.ref 0]) (args := []) (p := 6) hc (m_X2_size hK hR) dX7_drop_38 ml_X7_178 cf_X2_size iv_X2_size (k_6 hK) (C := RX2) (T := TX2) (N := 13) rfl rfl (Nat.lt_of_succ_le (Nat.le_of_ble_eq_true rfl)) rfl rfl (Nat.le_of_ble_eq_true rfl) ⟨Nat.le_of_ble_eq_true rfl, Nat.le_of_ble_eq_true rfl⟩ rfl (fun q_4 => ?_)
      refine w_callV_Wi (q := 44) (st := []) (args := [.int q_4]) (p := 0) hc (m_X7_tell hK hR) dX7_drop_41 ml_X7_86 cf_X7_tell iv_X7_tell (k_0 hK) (C := RX7) (T := TX7) (N := 7) rfl rfl (Nat.lt_of_succ_le (Nat.le_of_ble_eq_true rfl)) rfl rfl (Nat.le_of_ble_eq_true rfl) ⟨Nat.le_of_ble_eq_true rfl, Nat.le_of_ble_eq_true rfl⟩ rfl (fun q_5 => ?_)
      exact w_ireturn (v := q_5.1) hc hq dX7_drop_44 rfl rfl rfl
    · refine w_aload_n (q := 16) (i := 0) (j := 0) hc dX7_drop_15 rfl rfl rfl ?_
      refine w_iconst (q := 17) hc dX7_drop_16 ci_2 rfl ?_
      refine w_callV_Wi (q := 20) (st := []) (args := [.int 2]) (p := 0) hc (m_X7_refuse hK hR) dX7_drop_17 ml_X7_56 cf_X7_refuse iv_X7_refuse (k_0 hK) (C := RX7) (T := TX7) (N := 7) rfl rfl (Nat.lt_of_succ_le (Nat.le_of_ble_eq_true rfl)) rfl rfl (Nat.le_of_ble_eq_true rfl) ⟨Nat.le_of_ble_eq_true rfl, Nat.le_of_ble_eq_true rfl⟩ rfl (fun q_6 => ?_)
      exact w_ireturn (v := q_6.1) hc hq dX7_drop_20 rfl rfl rfl
set_option maxRecDepth 100000 in
set_option maxHeartbeats 4000000 in
theorem m_X7_undo {l : Launch} {K : KT} {R : MR} {rm : Nat} {I : MI} {L : ML} (hK0 : K = lK rm) (hR0 : R = lR rm) : MFg l yX7_undo cX7_undo 1 (some .int) 7 182 [.ref 0] K R I L anIW meW (f_X7_undo I L) := by
  refine mf_of (plainFor_of_name (by decide)) (Nat.le_of_ble_eq_true rfl) ?_
  intro G hc _ hK1 hR1 hn hq
  have hK := hK1.trans hK0
  have hR := hR1.trans hR0
  have hN : ∀ i, Nat.blt i 1 = true → i < gnL G := fun i h => hn ▸ Nat.blt_eq.mp h
  unfold f_X7_undo
  show WW G 0 [(0, .ref 0)] [] I L _
  refine w_aload_n (q := 1) (i := 0) (j := 0) hc dX7_undo_0 rfl rfl rfl ?_
  refine gf_X7_26 (q := 4) hc dX7_undo_1 (k_0 hK) (r_0_2 hR) rfl ?_
  refine gf_X7_97 (q := 7) hc dX7_undo_4 (k_37 hK) rfl ?_
  refine w_ifne (q := 10) (tgt := 16) hc dX7_undo_7 rfl rfl ?_ ?_
  · refine w_aload_n (q := 11) (i := 0) (j := 0) hc dX7_undo_10 rfl rfl rfl ?_
    refine w_iconst (q := 12) hc dX7_undo_11 ci_5 rfl ?_
    refine w_callV_Wi (q := 15) (st := []) (args := [.int 5]) (p := 0) hc (m_X7_refuse hK hR) dX7_undo_12 ml_X7_56 cf_X7_refuse iv_X7_refuse (k_0 hK) (C := RX7) (T := TX7) (N := 7) rfl rfl (Nat.lt_of_succ_le (Nat.le_of_ble_eq_true rfl)) rfl rfl (Nat.le_of_ble_eq_true rfl) ⟨Nat.le_of_ble_eq_true rfl, Nat.le_of_ble_eq_true rfl⟩ rfl (fun q_7 => ?_)
    exact w_ireturn (v := q_7.1) hc hq dX7_undo_15 rfl rfl rfl
  · refine w_aload_n (q := 17) (i := 0) (j := 0) hc dX7_undo_16 rfl rfl rfl ?_
    refine gf_X7_26 (q := 20) hc dX7_undo_17 (k_0 hK) (r_0_2 hR) rfl ?_
    refine w_callV_Wv (q := 23) (st := []) (args := []) (p := 37) hc (m_X3_goBack hK hR) dX7_undo_20 ml_X7_350 cf_X3_goBack iv_X3_goBack (k_37 hK) (C := RX3) (T := TX3) (N := 7) rfl rfl (Nat.lt_of_succ_le (Nat.le_of_ble_eq_true rfl)) rfl rfl (Nat.le_of_ble_eq_true rfl) ⟨Nat.le_of_ble_eq_true rfl, Nat.le_of_ble_eq_true rfl⟩ rfl (fun q_1 => ?_)
    refine w_aload_n (q := 24) (i := 0) (j := 0) hc dX7_undo_23 rfl rfl rfl ?_
    refine w_aload_n (q := 25) (i := 0) (j := 0) hc dX7_undo_24 rfl rfl rfl ?_
    refine gf_X7_26 (q := 28) hc dX7_undo_25 (k_0 hK) (r_0_2 hR) rfl ?_
    refine gf_X7_353 (q := 31) hc dX7_undo_28 (k_37 hK) rfl ?_
    refine pf_X7_38 (q := 34) hc dX7_undo_31 (k_0 hK) rfl (fun L_2 => ?_)
    refine w_aload_n (q := 35) (i := 0) (j := 0) hc dX7_undo_34 rfl rfl rfl ?_
    refine gf_X7_19 (q := 38) hc dX7_undo_35 (k_0 hK) (r_0_1 hR) rfl ?_
    refine w_aload_n (q := 39) (i := 0) (j := 0) hc dX7_undo_38 rfl rfl rfl ?_
    refine gf_X7_26 (q := 42) hc dX7_undo_39 (k_0 hK) (r_0_2 hR) rfl ?_
    refine gf_X7_354 (q := 45) hc dX7_undo_42 (k_37 hK) (r_37_3 hR) rfl ?_
    refine w_aload_n (q := 46) (i := 0) (j := 0) hc dX7_undo_45 rfl rfl rfl ?_
    refine gf_X7_26 (q := 49) hc dX7_undo_46 (k_0 hK) (r_0_2 hR) rfl ?_
    refine gf_X7_355 (q := 52) hc dX7_undo_49 (k_37 hK) rfl ?_
    refine w_callV_Rz (q := 55) (st := []) (args := [.ref 38, .int (q_1.1 37 2)]) (p := 6) hc (m_X2_hasJust hK hR (kB hK (k_38 hK))) dX7_undo_52 ml_X7_356 cf_X2_hasJust iv_X2_hasJust (k_6 hK) (C := RX2) (T := TX2) (N := 13) rfl rfl (Nat.lt_of_succ_le (Nat.le_of_ble_eq_true rfl)) rfl rfl (Nat.le_of_ble_eq_true rfl) ⟨Nat.le_of_ble_eq_true rfl, Nat.le_of_ble_eq_true rfl⟩ rfl (fun q_3 => ?_)
    refine w_ifne (q := 58) (tgt := 86) hc dX7_undo_55 rfl rfl ?_ ?_
    · refine w_aload_n (q := 59) (i := 0) (j := 0) hc dX7_undo_58 rfl rfl rfl ?_
      refine gf_X7_19 (q := 62) hc dX7_undo_59 (k_0 hK) (r_0_1 hR) rfl ?_
      refine w_aload_n (q := 63) (i := 0) (j := 0) hc dX7_undo_62 rfl rfl rfl ?_
      refine gf_X7_19 (q := 66) hc dX7_undo_63 (k_0 hK) (r_0_1 hR) rfl ?_
      refine gf_X7_95 (q := 69) hc dX7_undo_66 (k_6 hK) rfl ?_
      refine w_aload_n (q := 70) (i := 0) (j := 0) hc dX7_undo_69 rfl rfl rfl ?_
      refine gf_X7_26 (q := 73) hc dX7_undo_70 (k_0 hK) (r_0_2 hR) rfl ?_
      refine gf_X7_354 (q := 76) hc dX7_undo_73 (k_37 hK) (r_37_3 hR) rfl ?_
      refine w_aload_n (q := 77) (i := 0) (j := 0) hc dX7_undo_76 rfl rfl rfl ?_
      refine gf_X7_26 (q := 80) hc dX7_undo_77 (k_0 hK) (r_0_2 hR) rfl ?_
      refine gf_X7_355 (q := 83) hc dX7_undo_80 (k_37 hK) rfl ?_
      refine w_callV_Wv (q := 86) (st := []) (args := [.int (q_1.1 6 0), .ref 38, .int (q_1.1 37 2)]) (p := 6) hc (m_X2_become hK hR (kB hK (k_38 hK))) dX7_undo_83 ml_X7_73 cf_X2_become iv_X2_become (k_6 hK) (C := RX2) (T := TX2) (N := 13) rfl rfl (Nat.lt_of_succ_le (Nat.le_of_ble_eq_true rfl)) rfl rfl (Nat.le_of_ble_eq_true rfl) ⟨Nat.le_of_ble_eq_true rfl, Nat.le_of_ble_eq_true rfl⟩ rfl (fun q_5 => ?_)
      refine w_aload_n (q := 87) (i := 0) (j := 0) hc dX7_undo_86 rfl rfl rfl ?_
      refine w_aload_n (q := 88) (i := 0) (j := 0) hc dX7_undo_87 rfl rfl rfl ?_
      refine gf_X7_26 (q := 91) hc dX7_undo_88 (k_0 hK) (r_0_2 hR) rfl ?_
      refine gf_X7_97 (q := 94) hc dX7_undo_91 (k_37 hK) rfl ?_
      refine w_callV_Wi (q := 97) (st := []) (args := [.int (q_5.1 37 0)]) (p := 0) hc (m_X7_tell hK hR) dX7_undo_94 ml_X7_86 cf_X7_tell iv_X7_tell (k_0 hK) (C := RX7) (T := TX7) (N := 7) rfl rfl (Nat.lt_of_succ_le (Nat.le_of_ble_eq_true rfl)) rfl rfl (Nat.le_of_ble_eq_true rfl) ⟨Nat.le_of_ble_eq_true rfl, Nat.le_of_ble_eq_true rfl⟩ rfl (fun q_6 => ?_)
      exact w_ireturn (v := q_6.1) hc hq dX7_undo_97 rfl rfl rfl
    · refine w_aload_n (q := 87) (i := 0) (j := 0) hc dX7_undo_86 rfl rfl rfl ?_
      refine w_aload_n (q := 88) (i := 0) (j := 0) hc dX7_undo_87 rfl rfl rfl ?_
      refine gf_X7_26 (q := 91) hc dX7_undo_88 (k_0 hK) (r_0_2 hR) rfl ?_
      refine gf_X7_97 (q := 94) hc dX7_undo_91 (k_37 hK) rfl ?_
      refine w_callV_Wi (q := 97) (st := []) (args := [.int (q_1.1 37 0)]) (p := 0) hc (m_X7_tell hK hR) dX7_undo_94 ml_X7_86 cf_X7_tell iv_X7_tell (k_0 hK) (C := RX7) (T := TX7) (N := 7) rfl rfl (Nat.lt_of_succ_le (Nat.le_of_ble_eq_true rfl)) rfl rfl (Nat.le_of_ble_eq_true rfl) ⟨Nat.le_of_ble_eq_true rfl, Nat.le_of_ble_eq_true rfl⟩ rfl (fun q_4 => ?_)
      exact w_ireturn (v := q_4.1) hc hq dX7_undo_97 rfl rfl rfl
set_option maxRecDepth 100000 in
set_option maxHeartbeats 4000000 in
theorem m_X7_printByte {l : Launch} {K : KT} {R : MR} {rm : Nat} {a1 : Int32} {I : MI} {L : ML} (hK0 : K = lK rm) (hR0 : R = lR rm) : MFg l yX7_printByte cX7_printByte 2 none 0 0 [.ref 0, .int a1] K R I L anV meV (f_X7_printByte a1 I L) := by
  refine mf_of (plainFor_of_name (by decide)) (Nat.le_of_ble_eq_true rfl) ?_
  intro G hc _ hK1 hR1 hn hq
  have hK := hK1.trans hK0
  have hR := hR1.trans hR0
  have hN : ∀ i, Nat.blt i 2 = true → i < gnL G := fun i h => hn ▸ Nat.blt_eq.mp h
  unfold f_X7_printByte
  show WW G 0 [(0, .ref 0), (1, .int a1)] [] I L _
  refine w_aload_n (q := 1) (i := 0) (j := 0) hc dX7_printByte_0 rfl rfl rfl ?_
  refine gf_X7_34 (q := 4) hc dX7_printByte_1 (k_0 hK) rfl ?_
  refine w_aload_n (q := 5) (i := 0) (j := 0) hc dX7_printByte_4 rfl rfl rfl ?_
  refine gf_X7_30 (q := 8) hc dX7_printByte_5 (k_0 hK) (r_0_3 hR) rfl ?_
  refine w_alenB (q := 9) hc dX7_printByte_8 (k_42 hK) cn_32 rfl ?_
  refine w_icmpge (q := 12) (tgt := 33) hc dX7_printByte_9 rfl rfl ?_ ?_
  · exact w_return hc hq dX7_printByte_33 rfl rfl
  · refine w_aload_n (q := 13) (i := 0) (j := 0) hc dX7_printByte_12 rfl rfl rfl ?_
    refine gf_X7_30 (q := 16) hc dX7_printByte_13 (k_0 hK) (r_0_3 hR) rfl ?_
    refine w_aload_n (q := 17) (i := 0) (j := 0) hc dX7_printByte_16 rfl rfl rfl ?_
    refine gf_X7_34 (q := 20) hc dX7_printByte_17 (k_0 hK) rfl ?_
    refine w_iload_n (q := 21) (i := 1) (j := 1) hc dX7_printByte_20 rfl rfl rfl ?_
    refine w_i2b (q := 22) hc dX7_printByte_21  rfl ?_
    refine w_bast (q := 23) hc dX7_printByte_22 (k_42 hK) rfl (fun I_1 => ?_)
    refine w_aload_n (q := 24) (i := 0) (j := 0) hc dX7_printByte_23 rfl rfl rfl ?_
    refine w_dup_ref (q := 25) hc dX7_printByte_24  rfl ?_
    refine gf_X7_34 (q := 28) hc dX7_printByte_25 (k_0 hK) rfl ?_
    refine w_iconst (q := 29) hc dX7_printByte_28 ci_1 rfl ?_
    refine w_iadd (q := 30) hc dX7_printByte_29  rfl ?_
    refine pf_X7_34 (q := 33) hc dX7_printByte_30 (k_0 hK) rfl (fun I_2 => ?_)
    exact w_return hc hq dX7_printByte_33 rfl rfl
set_option maxRecDepth 100000 in
set_option maxHeartbeats 4000000 in
theorem wl_X7_printCycle_29 {G : GT (Int32 × Mm)} {rm : Nat} (v1_5 : Int64) (v3_6 : Int32) (hc : Cx G cX7_printCycle yX7_printCycle.cls (some .int) 1 22) (hq : RetQ G anIW meW) (hK : gK G = lK rm) (hR : gR G = lR rm) (hn : gnL G = 7) (k0 : Int32 → MI → ML → Option (Int32 × Mm)) (hk0 : ∀ (v4_17 : Int32) (I_18 : MI) (L_19 : ML), WW G 80 [(0, .ref 0), (4, .int v4_17)] [] I_18 L_19 (k0 v4_17 I_18 L_19)) : ∀ (n : Nat) (v4_7 : Int32) (v5_8 : Int32) (v6_9 : Int32) (I_10 : MI) (L_11 : ML), WW G 29 [(0, .ref 0), (1, .long v1_5), (3, .int v3_6), (4, .int v4_7), (5, .int v5_8), (6, .int v6_9)] [] I_10 L_11 (f_X7_printCycle_29 v1_5 v3_6 k0 n v4_7 v5_8 v6_9 I_10 L_11) := by
  have hN : ∀ i, Nat.blt i 7 = true → i < gnL G := fun i h => hn ▸ Nat.blt_eq.mp h
  intro n
  induction n with
  | zero => intros; exact w_none _ _ _
  | succ n ih =>
    intros v4_7 v5_8 v6_9 I_10 L_11
    rw [f_X7_printCycle_29]
    refine w_iload (q := 31) (i := 6) (j := 5) hc dX7_printCycle_29 rfl rfl ?_
    refine w_bipush (q := 33) hc dX7_printCycle_31 cb_10 rfl ?_
    refine w_icmpge (q := 36) (tgt := 80) hc dX7_printCycle_33 rfl rfl ?_ ?_
    · refine w_sub [0, 3] rfl ?_
      exact hk0 v4_7 I_10 L_11
    · refine w_iload (q := 38) (i := 5) (j := 4) hc dX7_printCycle_36 rfl rfl ?_
      refine w_iload_n (q := 39) (i := 3) (j := 2) hc dX7_printCycle_38 rfl rfl rfl ?_
      refine w_icmpeq (q := 42) (tgt := 80) hc dX7_printCycle_39 rfl rfl ?_ ?_
      · refine w_sub [0, 3] rfl ?_
        exact hk0 v4_7 I_10 L_11
      · refine w_aload_n (q := 43) (i := 0) (j := 0) hc dX7_printCycle_42 rfl rfl rfl ?_
        refine w_bipush (q := 45) hc dX7_printCycle_43 cb_32 rfl ?_
        refine w_callV_Wv (q := 48) (st := []) (args := [.int 32]) (p := 0) hc (m_X7_printByte hK hR) dX7_printCycle_45 ml_X7_388 cf_X7_printByte iv_X7_printByte (k_0 hK) (C := RX7) (T := TX7) (N := 7) rfl rfl (Nat.lt_of_succ_le (Nat.le_of_ble_eq_true rfl)) rfl rfl (Nat.le_of_ble_eq_true rfl) ⟨Nat.le_of_ble_eq_true rfl, Nat.le_of_ble_eq_true rfl⟩ rfl (fun q_12 => ?_)
        refine w_aload_n (q := 49) (i := 0) (j := 0) hc dX7_printCycle_48 rfl rfl rfl ?_
        refine w_bipush (q := 51) hc dX7_printCycle_49 cb_48 rfl ?_
        refine w_iload (q := 53) (i := 5) (j := 4) hc dX7_printCycle_51 rfl rfl ?_
        refine w_iadd (q := 54) hc dX7_printCycle_53  rfl ?_
        refine w_callV_Wv (q := 57) (st := []) (args := [.int (48 + v5_8)]) (p := 0) hc (m_X7_printByte hK hR) dX7_printCycle_54 ml_X7_388 cf_X7_printByte iv_X7_printByte (k_0 hK) (C := RX7) (T := TX7) (N := 7) rfl rfl (Nat.lt_of_succ_le (Nat.le_of_ble_eq_true rfl)) rfl rfl (Nat.le_of_ble_eq_true rfl) ⟨Nat.le_of_ble_eq_true rfl, Nat.le_of_ble_eq_true rfl⟩ rfl (fun q_13 => ?_)
        refine w_iload (q := 59) (i := 4) (j := 3) hc dX7_printCycle_57 rfl rfl ?_
        refine w_iconst (q := 60) hc dX7_printCycle_59 ci_1 rfl ?_
        refine w_iload (q := 62) (i := 5) (j := 4) hc dX7_printCycle_60 rfl rfl ?_
        refine w_ishl (q := 63) hc dX7_printCycle_62  rfl ?_
        refine w_ior (q := 64) hc dX7_printCycle_63  rfl ?_
        refine w_istoreB (q := 66) (i := 4) (lv' := fun v4_14 => [(4, .int v4_14), (0, .ref 0), (1, .long v1_5), (3, .int v3_6), (5, .int v5_8), (6, .int v6_9)]) hc dX7_printCycle_64 (hN 4 rfl) (fun _ => rfl) rfl (fun v4_14 => ?_)
        refine w_lload_n (q := 67) (i := 1) (j := 2) hc dX7_printCycle_66 rfl rfl rfl ?_
        refine w_iload (q := 69) (i := 5) (j := 4) hc dX7_printCycle_67 rfl rfl ?_
        refine w_callS_Ri (q := 72) (st := []) (args := [.long v1_5, .int v5_8]) hc (m_X6_image hK hR) dX7_printCycle_69 ml_X7_120 cf_X6_image st_X6_image rfl rfl (Nat.le_of_ble_eq_true rfl) ⟨Nat.le_of_ble_eq_true rfl, Nat.le_of_ble_eq_true rfl⟩ rfl (fun q_15 => ?_)
        refine w_istore (q := 74) (i := 5) (lv' := [(5, .int q_15), (4, .int v4_14), (0, .ref 0), (1, .long v1_5), (3, .int v3_6), (6, .int v6_9)]) hc dX7_printCycle_72 (hN 5 rfl) rfl rfl ?_
        refine w_iincB (q := 77) (i := 6) (j := 5) (lv' := fun v6_16 => [(6, .int v6_16), (5, .int q_15), (4, .int v4_14), (0, .ref 0), (1, .long v1_5), (3, .int v3_6)]) hc dX7_printCycle_74 rfl ci_1 (hN 6 rfl) (fun _ => rfl) rfl (fun v6_16 => ?_)
        refine w_goto (tgt := 29) hc dX7_printCycle_77 rfl ?_
        refine w_sub [3, 4, 5, 2, 1, 0] rfl ?_
        exact ih v4_14 q_15 v6_16 q_13.1 q_13.2
set_option maxRecDepth 100000 in
set_option maxHeartbeats 4000000 in
theorem m_X7_printCycle {l : Launch} {K : KT} {R : MR} {rm : Nat} {a1 : Int64} {a3 : Int32} {I : MI} {L : ML} (hK0 : K = lK rm) (hR0 : R = lR rm) : MFg l yX7_printCycle cX7_printCycle 7 (some .int) 1 22 [.ref 0, .long a1, .int a3] K R I L anIW meW (f_X7_printCycle a1 a3 I L) := by
  refine mf_of (plainFor_of_name (by decide)) (Nat.le_of_ble_eq_true rfl) ?_
  intro G hc _ hK1 hR1 hn hq
  have hK := hK1.trans hK0
  have hR := hR1.trans hR0
  have hN : ∀ i, Nat.blt i 7 = true → i < gnL G := fun i h => hn ▸ Nat.blt_eq.mp h
  unfold f_X7_printCycle
  show WW G 0 [(0, .ref 0), (1, .long a1), (3, .int a3)] [] I L _
  refine w_aload_n (q := 1) (i := 0) (j := 0) hc dX7_printCycle_0 rfl rfl rfl ?_
  refine w_bipush (q := 3) hc dX7_printCycle_1 cb_40 rfl ?_
  refine w_callV_Wv (q := 6) (st := []) (args := [.int 40]) (p := 0) hc (m_X7_printByte hK hR) dX7_printCycle_3 ml_X7_388 cf_X7_printByte iv_X7_printByte (k_0 hK) (C := RX7) (T := TX7) (N := 7) rfl rfl (Nat.lt_of_succ_le (Nat.le_of_ble_eq_true rfl)) rfl rfl (Nat.le_of_ble_eq_true rfl) ⟨Nat.le_of_ble_eq_true rfl, Nat.le_of_ble_eq_true rfl⟩ rfl (fun q_1 => ?_)
  refine w_aload_n (q := 7) (i := 0) (j := 0) hc dX7_printCycle_6 rfl rfl rfl ?_
  refine w_bipush (q := 9) hc dX7_printCycle_7 cb_48 rfl ?_
  refine w_iload_n (q := 10) (i := 3) (j := 2) hc dX7_printCycle_9 rfl rfl rfl ?_
  refine w_iadd (q := 11) hc dX7_printCycle_10  rfl ?_
  refine w_callV_Wv (q := 14) (st := []) (args := [.int (48 + a3)]) (p := 0) hc (m_X7_printByte hK hR) dX7_printCycle_11 ml_X7_388 cf_X7_printByte iv_X7_printByte (k_0 hK) (C := RX7) (T := TX7) (N := 7) rfl rfl (Nat.lt_of_succ_le (Nat.le_of_ble_eq_true rfl)) rfl rfl (Nat.le_of_ble_eq_true rfl) ⟨Nat.le_of_ble_eq_true rfl, Nat.le_of_ble_eq_true rfl⟩ rfl (fun q_2 => ?_)
  refine w_iconst (q := 15) hc dX7_printCycle_14 ci_1 rfl ?_
  refine w_iload_n (q := 16) (i := 3) (j := 2) hc dX7_printCycle_15 rfl rfl rfl ?_
  refine w_ishl (q := 17) hc dX7_printCycle_16  rfl ?_
  refine w_istoreB (q := 19) (i := 4) (lv' := fun v4_3 => [(4, .int v4_3), (0, .ref 0), (1, .long a1), (3, .int a3)]) hc dX7_printCycle_17 (hN 4 rfl) (fun _ => rfl) rfl (fun v4_3 => ?_)
  refine w_lload_n (q := 20) (i := 1) (j := 2) hc dX7_printCycle_19 rfl rfl rfl ?_
  refine w_iload_n (q := 21) (i := 3) (j := 3) hc dX7_printCycle_20 rfl rfl rfl ?_
  refine w_callS_Ri (q := 24) (st := []) (args := [.long a1, .int a3]) hc (m_X6_image hK hR) dX7_printCycle_21 ml_X7_120 cf_X6_image st_X6_image rfl rfl (Nat.le_of_ble_eq_true rfl) ⟨Nat.le_of_ble_eq_true rfl, Nat.le_of_ble_eq_true rfl⟩ rfl (fun q_4 => ?_)
  refine w_istore (q := 26) (i := 5) (lv' := [(5, .int q_4), (4, .int v4_3), (0, .ref 0), (1, .long a1), (3, .int a3)]) hc dX7_printCycle_24 (hN 5 rfl) rfl rfl ?_
  refine w_iconst (q := 27) hc dX7_printCycle_26 ci_0 rfl ?_
  refine w_istore (q := 29) (i := 6) (lv' := [(6, .int 0), (5, .int q_4), (4, .int v4_3), (0, .ref 0), (1, .long a1), (3, .int a3)]) hc dX7_printCycle_27 (hN 6 rfl) rfl rfl ?_
  refine w_sub [3, 4, 5, 2, 1, 0] rfl ?_
  refine wl_X7_printCycle_29 a1 a3 hc hq hK hR hn _ ?_ FU v4_3 q_4 0 q_2.1 q_2.2
  intro v4_17 I_18 L_19
  refine w_aload_n (q := 81) (i := 0) (j := 0) hc dX7_printCycle_80 rfl rfl rfl ?_
  refine w_bipush (q := 83) hc dX7_printCycle_81 cb_41 rfl ?_
  refine w_callV_Wv (q := 86) (st := []) (args := [.int 41]) (p := 0) hc (m_X7_printByte hK hR) dX7_printCycle_83 ml_X7_388 cf_X7_printByte iv_X7_printByte (k_0 hK) (C := RX7) (T := TX7) (N := 7) rfl rfl (Nat.lt_of_succ_le (Nat.le_of_ble_eq_true rfl)) rfl rfl (Nat.le_of_ble_eq_true rfl) ⟨Nat.le_of_ble_eq_true rfl, Nat.le_of_ble_eq_true rfl⟩ rfl (fun q_20 => ?_)
  refine w_iload (q := 88) (i := 4) (j := 1) hc dX7_printCycle_86 rfl rfl ?_
  exact w_ireturn (v := v4_17) hc hq dX7_printCycle_88 rfl rfl rfl
set_option maxRecDepth 100000 in
set_option maxHeartbeats 4000000 in
theorem wl_X7_printCycles_10 {G : GT Mm} {rm : Nat} (v1_2 : Int64) (hc : Cx G cX7_printCycles yX7_printCycles.cls none 2 48) (hq : RetQ G anV meV) (hK : gK G = lK rm) (hR : gR G = lR rm) (hn : gnL G = 6) (k0 : MI → ML → Option Mm) (hk0 : ∀ (I_16 : MI) (L_17 : ML), WW G 77 [(0, .ref 0)] [] I_16 L_17 (k0 I_16 L_17)) : ∀ (n : Nat) (v3_3 : Int32) (v4_4 : Int32) (I_5 : MI) (L_6 : ML), WW G 10 [(0, .ref 0), (1, .long v1_2), (3, .int v3_3), (4, .int v4_4)] [] I_5 L_6 (f_X7_printCycles_10 v1_2 k0 n v3_3 v4_4 I_5 L_6) := by
  have hN : ∀ i, Nat.blt i 6 = true → i < gnL G := fun i h => hn ▸ Nat.blt_eq.mp h
  intro n
  induction n with
  | zero => intros; exact w_none _ _ _
  | succ n ih =>
    intros v3_3 v4_4 I_5 L_6
    rw [f_X7_printCycles_10]
    refine w_iload (q := 12) (i := 4) (j := 3) hc dX7_printCycles_10 rfl rfl ?_
    refine w_aload_n (q := 13) (i := 0) (j := 0) hc dX7_printCycles_12 rfl rfl rfl ?_
    refine gf_X7_19 (q := 16) hc dX7_printCycles_13 (k_0 hK) (r_0_1 hR) rfl ?_
    refine gf_X7_95 (q := 19) hc dX7_printCycles_16 (k_6 hK) rfl ?_
    refine w_icmpge (q := 22) (tgt := 77) hc dX7_printCycles_19 rfl rfl ?_ ?_
    · refine w_sub [0] rfl ?_
      exact hk0 I_5 L_6
    · refine w_iload_n (q := 23) (i := 3) (j := 2) hc dX7_printCycles_22 rfl rfl rfl ?_
      refine w_iload (q := 25) (i := 4) (j := 3) hc dX7_printCycles_23 rfl rfl ?_
      refine w_ishr (q := 26) hc dX7_printCycles_25  rfl ?_
      refine w_iconst (q := 27) hc dX7_printCycles_26 ci_1 rfl ?_
      refine w_iand (q := 28) hc dX7_printCycles_27  rfl ?_
      refine w_join (fun j36_164 : Bool → Option Mm => ∀ (s0_7 : Bool), WW G 36 [(0, .ref 0), (1, .long v1_2), (3, .int v3_3), (4, .int v4_4)] [.int (b2i s0_7)] I_5 L_6 (j36_164 s0_7)) ?_ ?_
      · intro s0_7
        refine w_istoreB (q := 38) (i := 5) (lv' := fun v5_8 => [(5, .int v5_8), (0, .ref 0), (1, .long v1_2), (3, .int v3_3), (4, .int v4_4)]) hc dX7_printCycles_36 (hN 5 rfl) (fun _ => rfl) rfl (fun v5_8 => ?_)
        refine w_iload_n (q := 39) (i := 3) (j := 3) hc dX7_printCycles_38 rfl rfl rfl ?_
        refine w_iconst (q := 40) hc dX7_printCycles_39 ci_1 rfl ?_
        refine w_iload (q := 42) (i := 4) (j := 4) hc dX7_printCycles_40 rfl rfl ?_
        refine w_ishl (q := 43) hc dX7_printCycles_42  rfl ?_
        refine w_ior (q := 44) hc dX7_printCycles_43  rfl ?_
        refine w_istore_nB (q := 45) (i := 3) (lv' := fun v3_9 => [(3, .int v3_9), (5, .int v5_8), (0, .ref 0), (1, .long v1_2), (4, .int v4_4)]) hc dX7_printCycles_44 rfl (hN 3 rfl) (fun _ => rfl) rfl (fun v3_9 => ?_)
        refine w_iload (q := 47) (i := 5) (j := 1) hc dX7_printCycles_45 rfl rfl ?_
        refine w_ifeq (q := 50) (tgt := 71) hc dX7_printCycles_47 rfl rfl ?_ ?_
        · refine w_iincB (q := 74) (i := 4) (j := 4) (lv' := fun v4_10 => [(4, .int v4_10), (3, .int v3_9), (5, .int v5_8), (0, .ref 0), (1, .long v1_2)]) hc dX7_printCycles_71 rfl ci_1 (hN 4 rfl) (fun _ => rfl) rfl (fun v4_10 => ?_)
          refine w_goto (tgt := 10) hc dX7_printCycles_74 rfl ?_
          refine w_sub [3, 4, 1, 0] rfl ?_
          exact ih v3_9 v4_10 I_5 L_6
        · refine w_lload_n (q := 51) (i := 1) (j := 3) hc dX7_printCycles_50 rfl rfl rfl ?_
          refine w_iload (q := 53) (i := 4) (j := 4) hc dX7_printCycles_51 rfl rfl ?_
          refine w_callS_Ri (q := 56) (st := []) (args := [.long v1_2, .int v4_4]) hc (m_X6_image hK hR) dX7_printCycles_53 ml_X7_120 cf_X6_image st_X6_image rfl rfl (Nat.le_of_ble_eq_true rfl) ⟨Nat.le_of_ble_eq_true rfl, Nat.le_of_ble_eq_true rfl⟩ rfl (fun q_11 => ?_)
          refine w_iload (q := 58) (i := 4) (j := 4) hc dX7_printCycles_56 rfl rfl ?_
          refine w_icmpeq (q := 61) (tgt := 71) hc dX7_printCycles_58 rfl rfl ?_ ?_
          · refine w_iincB (q := 74) (i := 4) (j := 4) (lv' := fun v4_12 => [(4, .int v4_12), (3, .int v3_9), (5, .int v5_8), (0, .ref 0), (1, .long v1_2)]) hc dX7_printCycles_71 rfl ci_1 (hN 4 rfl) (fun _ => rfl) rfl (fun v4_12 => ?_)
            refine w_goto (tgt := 10) hc dX7_printCycles_74 rfl ?_
            refine w_sub [3, 4, 1, 0] rfl ?_
            exact ih v3_9 v4_12 I_5 L_6
          · refine w_iload_n (q := 62) (i := 3) (j := 0) hc dX7_printCycles_61 rfl rfl rfl ?_
            refine w_aload_n (q := 63) (i := 0) (j := 2) hc dX7_printCycles_62 rfl rfl rfl ?_
            refine w_lload_n (q := 64) (i := 1) (j := 3) hc dX7_printCycles_63 rfl rfl rfl ?_
            refine w_iload (q := 66) (i := 4) (j := 4) hc dX7_printCycles_64 rfl rfl ?_
            refine w_callV_Wi (q := 69) (st := [.int v3_9]) (args := [.long v1_2, .int v4_4]) (p := 0) hc (m_X7_printCycle hK hR) dX7_printCycles_66 ml_X7_385 cf_X7_printCycle iv_X7_printCycle (k_0 hK) (C := RX7) (T := TX7) (N := 7) rfl rfl (Nat.lt_of_succ_le (Nat.le_of_ble_eq_true rfl)) rfl rfl (Nat.le_of_ble_eq_true rfl) ⟨Nat.le_of_ble_eq_true rfl, Nat.le_of_ble_eq_true rfl⟩ rfl (fun q_13 => ?_)
            refine w_ior (q := 70) hc dX7_printCycles_69  rfl ?_
            refine w_istore_nB (q := 71) (i := 3) (lv' := fun v3_14 => [(3, .int v3_14), (5, .int v5_8), (0, .ref 0), (1, .long v1_2), (4, .int v4_4)]) hc dX7_printCycles_70 rfl (hN 3 rfl) (fun _ => rfl) rfl (fun v3_14 => ?_)
            refine w_iincB (q := 74) (i := 4) (j := 4) (lv' := fun v4_15 => [(4, .int v4_15), (3, .int v3_14), (5, .int v5_8), (0, .ref 0), (1, .long v1_2)]) hc dX7_printCycles_71 rfl ci_1 (hN 4 rfl) (fun _ => rfl) rfl (fun v4_15 => ?_)
            refine w_goto (tgt := 10) hc dX7_printCycles_74 rfl ?_
            refine w_sub [3, 4, 1, 0] rfl ?_
            exact ih v3_14 v4_15 q_13.2.1 q_13.2.2
      · intro j36_164 hj36_164
        refine w_ifne (q := 31) (tgt := 35) hc dX7_printCycles_28 rfl rfl ?_ ?_
        · refine w_iconst (q := 32) hc dX7_printCycles_31 ci_1 rfl ?_
          refine w_goto (tgt := 36) hc dX7_printCycles_32 rfl ?_
          exact hj36_164 true
        · refine w_iconst (q := 36) hc dX7_printCycles_35 ci_0 rfl ?_
          exact hj36_164 false
set_option maxRecDepth 100000 in
set_option maxHeartbeats 4000000 in
theorem m_X7_printCycles {l : Launch} {K : KT} {R : MR} {rm : Nat} {a1 : Int64} {I : MI} {L : ML} (hK0 : K = lK rm) (hR0 : R = lR rm) : MFg l yX7_printCycles cX7_printCycles 6 none 2 48 [.ref 0, .long a1] K R I L anV meV (f_X7_printCycles a1 I L) := by
  refine mf_of (plainFor_of_name (by decide)) (Nat.le_of_ble_eq_true rfl) ?_
  intro G hc _ hK1 hR1 hn hq
  have hK := hK1.trans hK0
  have hR := hR1.trans hR0
  have hN : ∀ i, Nat.blt i 6 = true → i < gnL G := fun i h => hn ▸ Nat.blt_eq.mp h
  unfold f_X7_printCycles
  show WW G 0 [(0, .ref 0), (1, .long a1)] [] I L _
  refine w_aload_n (q := 1) (i := 0) (j := 0) hc dX7_printCycles_0 rfl rfl rfl ?_
  refine w_iconst (q := 2) hc dX7_printCycles_1 ci_0 rfl ?_
  refine pf_X7_34 (q := 5) hc dX7_printCycles_2 (k_0 hK) rfl (fun I_1 => ?_)
  refine w_iconst (q := 6) hc dX7_printCycles_5 ci_0 rfl ?_
  refine w_istore_n (q := 7) (i := 3) (lv' := [(3, .int 0), (0, .ref 0), (1, .long a1)]) hc dX7_printCycles_6 rfl (hN 3 rfl) rfl rfl ?_
  refine w_iconst (q := 8) hc dX7_printCycles_7 ci_0 rfl ?_
  refine w_istore (q := 10) (i := 4) (lv' := [(4, .int 0), (3, .int 0), (0, .ref 0), (1, .long a1)]) hc dX7_printCycles_8 (hN 4 rfl) rfl rfl ?_
  refine w_sub [2, 3, 1, 0] rfl ?_
  refine wl_X7_printCycles_10 a1 hc hq hK hR hn _ ?_ FU 0 0 I_1 L
  intro I_16 L_17
  refine w_aload_n (q := 78) (i := 0) (j := 0) hc dX7_printCycles_77 rfl rfl rfl ?_
  refine gf_X7_34 (q := 81) hc dX7_printCycles_78 (k_0 hK) rfl ?_
  refine w_ifne (q := 84) (tgt := 96) hc dX7_printCycles_81 rfl rfl ?_ ?_
  · refine w_aload_n (q := 85) (i := 0) (j := 0) hc dX7_printCycles_84 rfl rfl rfl ?_
    refine w_bipush (q := 87) hc dX7_printCycles_85 cb_40 rfl ?_
    refine w_callV_Wv (q := 90) (st := []) (args := [.int 40]) (p := 0) hc (m_X7_printByte hK hR) dX7_printCycles_87 ml_X7_388 cf_X7_printByte iv_X7_printByte (k_0 hK) (C := RX7) (T := TX7) (N := 7) rfl rfl (Nat.lt_of_succ_le (Nat.le_of_ble_eq_true rfl)) rfl rfl (Nat.le_of_ble_eq_true rfl) ⟨Nat.le_of_ble_eq_true rfl, Nat.le_of_ble_eq_true rfl⟩ rfl (fun q_18 => ?_)
    refine w_aload_n (q := 91) (i := 0) (j := 0) hc dX7_printCycles_90 rfl rfl rfl ?_
    refine w_bipush (q := 93) hc dX7_printCycles_91 cb_41 rfl ?_
    refine w_callV_Wv (q := 96) (st := []) (args := [.int 41]) (p := 0) hc (m_X7_printByte hK hR) dX7_printCycles_93 ml_X7_388 cf_X7_printByte iv_X7_printByte (k_0 hK) (C := RX7) (T := TX7) (N := 7) rfl rfl (Nat.lt_of_succ_le (Nat.le_of_ble_eq_true rfl)) rfl rfl (Nat.le_of_ble_eq_true rfl) ⟨Nat.le_of_ble_eq_true rfl, Nat.le_of_ble_eq_true rfl⟩ rfl (fun q_19 => ?_)
    exact w_return hc hq dX7_printCycles_96 rfl rfl
  · exact w_return hc hq dX7_printCycles_96 rfl rfl
set_option maxRecDepth 100000 in
set_option maxHeartbeats 4000000 in
theorem m_X7_print {l : Launch} {K : KT} {R : MR} {rm : Nat} {a1 : Int64} {I : MI} {L : ML} (hK0 : K = lK rm) (hR0 : R = lR rm) : MFg l yX7_print cX7_print 5 (some .int) 3 73 [.ref 0, .long a1] K R I L anIW meW (f_X7_print a1 I L) := by
  refine mf_of (plainFor_of_name (by decide)) (Nat.le_of_ble_eq_true rfl) ?_
  intro G hc _ hK1 hR1 hn hq
  have hK := hK1.trans hK0
  have hR := hR1.trans hR0
  have hN : ∀ i, Nat.blt i 5 = true → i < gnL G := fun i h => hn ▸ Nat.blt_eq.mp h
  unfold f_X7_print
  show WW G 0 [(0, .ref 0), (1, .long a1)] [] I L _
  refine w_aload_n (q := 1) (i := 0) (j := 0) hc dX7_print_0 rfl rfl rfl ?_
  refine w_lload_n (q := 2) (i := 1) (j := 1) hc dX7_print_1 rfl rfl rfl ?_
  refine w_callV_Rl (q := 5) (st := []) (args := [.long a1]) (p := 0) hc (m_X7_read hK hR) dX7_print_2 ml_X7_114 cf_X7_read iv_X7_read (k_0 hK) (C := RX7) (T := TX7) (N := 7) rfl rfl (Nat.lt_of_succ_le (Nat.le_of_ble_eq_true rfl)) rfl rfl (Nat.le_of_ble_eq_true rfl) ⟨Nat.le_of_ble_eq_true rfl, Nat.le_of_ble_eq_true rfl⟩ rfl (fun q_1 => ?_)
  refine w_lstore_n (q := 6) (i := 3) (lv' := [(3, .long q_1), (0, .ref 0), (1, .long a1)]) hc dX7_print_5 rfl (hN 4 rfl) rfl rfl ?_
  refine w_lload_n (q := 7) (i := 3) (j := 0) hc dX7_print_6 rfl rfl rfl ?_
  refine w_lconst (q := 8) hc dX7_print_7 cl_0 rfl ?_
  refine w_lcmp (q := 9) hc dX7_print_8  rfl ?_
  refine w_ifge (q := 12) (tgt := 18) hc dX7_print_9 rfl rfl ?_ ?_
  · refine w_aload_n (q := 19) (i := 0) (j := 1) hc dX7_print_18 rfl rfl rfl ?_
    refine w_lload_n (q := 20) (i := 3) (j := 0) hc dX7_print_19 rfl rfl rfl ?_
    refine w_callV_Wv (q := 23) (st := []) (args := [.long q_1]) (p := 0) hc (m_X7_printCycles hK hR) dX7_print_20 ml_X7_360 cf_X7_printCycles iv_X7_printCycles (k_0 hK) (C := RX7) (T := TX7) (N := 7) rfl rfl (Nat.lt_of_succ_le (Nat.le_of_ble_eq_true rfl)) rfl rfl (Nat.le_of_ble_eq_true rfl) ⟨Nat.le_of_ble_eq_true rfl, Nat.le_of_ble_eq_true rfl⟩ rfl (fun q_2 => ?_)
    refine w_aload_n (q := 24) (i := 0) (j := 1) hc dX7_print_23 rfl rfl rfl ?_
    refine w_aload_n (q := 25) (i := 0) (j := 1) hc dX7_print_24 rfl rfl rfl ?_
    refine gf_X7_34 (q := 28) hc dX7_print_25 (k_0 hK) rfl ?_
    refine w_callV_Wi (q := 31) (st := []) (args := [.int (q_2.1 0 4)]) (p := 0) hc (m_X7_tell hK hR) dX7_print_28 ml_X7_86 cf_X7_tell iv_X7_tell (k_0 hK) (C := RX7) (T := TX7) (N := 7) rfl rfl (Nat.lt_of_succ_le (Nat.le_of_ble_eq_true rfl)) rfl rfl (Nat.le_of_ble_eq_true rfl) ⟨Nat.le_of_ble_eq_true rfl, Nat.le_of_ble_eq_true rfl⟩ rfl (fun q_3 => ?_)
    exact w_ireturn (v := q_3.1) hc hq dX7_print_31 rfl rfl rfl
  · refine w_aload_n (q := 13) (i := 0) (j := 1) hc dX7_print_12 rfl rfl rfl ?_
    refine w_iconst (q := 14) hc dX7_print_13 ci_1 rfl ?_
    refine w_callV_Wi (q := 17) (st := []) (args := [.int 1]) (p := 0) hc (m_X7_refuse hK hR) dX7_print_14 ml_X7_56 cf_X7_refuse iv_X7_refuse (k_0 hK) (C := RX7) (T := TX7) (N := 7) rfl rfl (Nat.lt_of_succ_le (Nat.le_of_ble_eq_true rfl)) rfl rfl (Nat.le_of_ble_eq_true rfl) ⟨Nat.le_of_ble_eq_true rfl, Nat.le_of_ble_eq_true rfl⟩ rfl (fun q_4 => ?_)
    exact w_ireturn (v := q_4.1) hc hq dX7_print_17 rfl rfl rfl
set_option maxRecDepth 100000 in
set_option maxHeartbeats 4000000 in
theorem m_X7_out {l : Launch} {K : KT} {R : MR} {rm : Nat} {a1 : Int32} {I : MI} {L : ML} (hK0 : K = lK rm) (hR0 : R = lR rm) : MFg l yX7_out cX7_out 2 (some .int) 1 21 [.ref 0, .int a1] K R I L anIW meW (f_X7_out a1 I L) := by
  refine mf_of (plainFor_of_name (by decide)) (Nat.le_of_ble_eq_true rfl) ?_
  intro G hc _ hK1 hR1 hn hq
  have hK := hK1.trans hK0
  have hR := hR1.trans hR0
  have hN : ∀ i, Nat.blt i 2 = true → i < gnL G := fun i h => hn ▸ Nat.blt_eq.mp h
  unfold f_X7_out
  show WW G 0 [(0, .ref 0), (1, .int a1)] [] I L _
  refine w_iload_n (q := 1) (i := 1) (j := 1) hc dX7_out_0 rfl rfl rfl ?_
  refine w_ifge (q := 4) (tgt := 10) hc dX7_out_1 rfl rfl ?_ ?_
  · refine w_iload_n (q := 11) (i := 1) (j := 1) hc dX7_out_10 rfl rfl rfl ?_
    refine w_aload_n (q := 12) (i := 0) (j := 0) hc dX7_out_11 rfl rfl rfl ?_
    refine gf_X7_34 (q := 15) hc dX7_out_12 (k_0 hK) rfl ?_
    refine w_icmpge (q := 18) (tgt := 27) hc dX7_out_15 rfl rfl ?_ ?_
    · refine w_aload_n (q := 28) (i := 0) (j := 0) hc dX7_out_27 rfl rfl rfl ?_
      refine w_iconst (q := 29) hc dX7_out_28 ci_5 rfl ?_
      refine w_callV_Wi (q := 32) (st := []) (args := [.int 5]) (p := 0) hc (m_X7_refuse hK hR) dX7_out_29 ml_X7_56 cf_X7_refuse iv_X7_refuse (k_0 hK) (C := RX7) (T := TX7) (N := 7) rfl rfl (Nat.lt_of_succ_le (Nat.le_of_ble_eq_true rfl)) rfl rfl (Nat.le_of_ble_eq_true rfl) ⟨Nat.le_of_ble_eq_true rfl, Nat.le_of_ble_eq_true rfl⟩ rfl (fun q_1 => ?_)
      exact w_ireturn (v := q_1.1) hc hq dX7_out_32 rfl rfl rfl
    · refine w_iload_n (q := 19) (i := 1) (j := 1) hc dX7_out_18 rfl rfl rfl ?_
      refine w_aload_n (q := 20) (i := 0) (j := 0) hc dX7_out_19 rfl rfl rfl ?_
      refine gf_X7_30 (q := 23) hc dX7_out_20 (k_0 hK) (r_0_3 hR) rfl ?_
      refine w_alenB (q := 24) hc dX7_out_23 (k_42 hK) cn_32 rfl ?_
      refine w_icmplt (q := 27) (tgt := 33) hc dX7_out_24 rfl rfl ?_ ?_
      · refine w_aload_n (q := 34) (i := 0) (j := 0) hc dX7_out_33 rfl rfl rfl ?_
        refine w_aload_n (q := 35) (i := 0) (j := 0) hc dX7_out_34 rfl rfl rfl ?_
        refine gf_X7_30 (q := 38) hc dX7_out_35 (k_0 hK) (r_0_3 hR) rfl ?_
        refine w_iload_n (q := 39) (i := 1) (j := 1) hc dX7_out_38 rfl rfl rfl ?_
        refine w_bald (q := 40) hc dX7_out_39 (k_42 hK) rfl ?_
        refine w_callV_Wi (q := 43) (st := []) (args := [.int (I 42 (ix a1))]) (p := 0) hc (m_X7_tell hK hR) dX7_out_40 ml_X7_86 cf_X7_tell iv_X7_tell (k_0 hK) (C := RX7) (T := TX7) (N := 7) rfl rfl (Nat.lt_of_succ_le (Nat.le_of_ble_eq_true rfl)) rfl rfl (Nat.le_of_ble_eq_true rfl) ⟨Nat.le_of_ble_eq_true rfl, Nat.le_of_ble_eq_true rfl⟩ rfl (fun q_2 => ?_)
        exact w_ireturn (v := q_2.1) hc hq dX7_out_43 rfl rfl rfl
      · refine w_aload_n (q := 28) (i := 0) (j := 0) hc dX7_out_27 rfl rfl rfl ?_
        refine w_iconst (q := 29) hc dX7_out_28 ci_5 rfl ?_
        refine w_callV_Wi (q := 32) (st := []) (args := [.int 5]) (p := 0) hc (m_X7_refuse hK hR) dX7_out_29 ml_X7_56 cf_X7_refuse iv_X7_refuse (k_0 hK) (C := RX7) (T := TX7) (N := 7) rfl rfl (Nat.lt_of_succ_le (Nat.le_of_ble_eq_true rfl)) rfl rfl (Nat.le_of_ble_eq_true rfl) ⟨Nat.le_of_ble_eq_true rfl, Nat.le_of_ble_eq_true rfl⟩ rfl (fun q_3 => ?_)
        exact w_ireturn (v := q_3.1) hc hq dX7_out_32 rfl rfl rfl
  · refine w_aload_n (q := 5) (i := 0) (j := 0) hc dX7_out_4 rfl rfl rfl ?_
    refine w_iconst (q := 6) hc dX7_out_5 ci_1 rfl ?_
    refine w_callV_Wi (q := 9) (st := []) (args := [.int 1]) (p := 0) hc (m_X7_refuse hK hR) dX7_out_6 ml_X7_56 cf_X7_refuse iv_X7_refuse (k_0 hK) (C := RX7) (T := TX7) (N := 7) rfl rfl (Nat.lt_of_succ_le (Nat.le_of_ble_eq_true rfl)) rfl rfl (Nat.le_of_ble_eq_true rfl) ⟨Nat.le_of_ble_eq_true rfl, Nat.le_of_ble_eq_true rfl⟩ rfl (fun q_4 => ?_)
    exact w_ireturn (v := q_4.1) hc hq dX7_out_9 rfl rfl rfl
