set_option maxRecDepth 100000 in
set_option maxHeartbeats 4000000 in
theorem m_X7_status {l : Launch} {K : KT} {R : MR} {rm : Nat} {I : MI} {L : ML} (hK0 : K = lK rm) (hR0 : R = lR rm) : MFg l yX7_status cX7_status 1 (some .int) 0 0 [.ref 0] K R I L anI (meR I L) (f_X7_status I L) := by
  refine mf_of (plainFor_of_name (by decide)) (Nat.le_of_ble_eq_true rfl) ?_
  intro G hc _ hK1 hR1 hn hq
  have hK := hK1.trans hK0
  have hR := hR1.trans hR0
  have hN : ∀ i, Nat.blt i 1 = true → i < gnL G := fun i h => hn ▸ Nat.blt_eq.mp h
  unfold f_X7_status
  show WW G 0 [(0, .ref 0)] [] I L _
  refine w_aload_n (q := 1) (i := 0) (j := 0) hc dX7_status_0 rfl rfl rfl ?_
  refine gf_X7_42 (q := 4) hc dX7_status_1 (k_0 hK) rfl ?_
  exact w_ireturn (v := (I 0 6)) hc hq dX7_status_4 rfl rfl rfl
set_option maxRecDepth 100000 in
set_option maxHeartbeats 4000000 in
theorem m_X7_feed {l : Launch} {K : KT} {R : MR} {rm : Nat} {a1 : Int32} {a2 : Int32} {a3 : Int32} {a4 : Int32} {a5 : Int32} {I : MI} {L : ML} (hK0 : K = lK rm) (hR0 : R = lR rm) : MFg l yX7_feed cX7_feed 6 (some .int) 1 22 [.ref 0, .int a1, .int a2, .int a3, .int a4, .int a5] K R I L anIW meW (f_X7_feed a1 a2 a3 a4 a5 I L) := by
  refine mf_of (plainFor_of_name (by decide)) (Nat.le_of_ble_eq_true rfl) ?_
  intro G hc _ hK1 hR1 hn hq
  have hK := hK1.trans hK0
  have hR := hR1.trans hR0
  have hN : ∀ i, Nat.blt i 6 = true → i < gnL G := fun i h => hn ▸ Nat.blt_eq.mp h
  unfold f_X7_feed
  show WW G 0 [(0, .ref 0), (1, .int a1), (2, .int a2), (3, .int a3), (4, .int a4), (5, .int a5)] [] I L _
  refine w_aload_n (q := 1) (i := 0) (j := 0) hc dX7_feed_0 rfl rfl rfl ?_
  refine gf_X7_10 (q := 4) hc dX7_feed_1 (k_0 hK) (r_0_0 hR) rfl ?_
  refine w_bipush (q := 6) hc dX7_feed_4 cb_20 rfl ?_
  refine w_callV_Rz (q := 9) (st := []) (args := [.int 20]) (p := 1) hc (m_X5_hasRoom hK hR) dX7_feed_6 ml_X7_45 cf_X5_hasRoom iv_X5_hasRoom (k_1 hK) (C := RX5) (T := TX5) (N := 16) rfl rfl (Nat.lt_of_succ_le (Nat.le_of_ble_eq_true rfl)) rfl rfl (Nat.le_of_ble_eq_true rfl) ⟨Nat.le_of_ble_eq_true rfl, Nat.le_of_ble_eq_true rfl⟩ rfl (fun q_1 => ?_)
  refine w_ifne (q := 12) (tgt := 14) hc dX7_feed_9 rfl rfl ?_ ?_
  · refine w_iconst (q := 13) hc dX7_feed_12 ci_m1 rfl ?_
    exact w_ireturn (v := (-1)) hc hq dX7_feed_13 rfl rfl rfl
  · refine w_aload_n (q := 15) (i := 0) (j := 0) hc dX7_feed_14 rfl rfl rfl ?_
    refine gf_X7_10 (q := 18) hc dX7_feed_15 (k_0 hK) (r_0_0 hR) rfl ?_
    refine w_iload_n (q := 19) (i := 1) (j := 1) hc dX7_feed_18 rfl rfl rfl ?_
    refine w_callV_Wv (q := 22) (st := []) (args := [.int a1]) (p := 1) hc (m_X5_append hK hR) dX7_feed_19 ml_X7_49 cf_X5_append iv_X5_append (k_1 hK) (C := RX5) (T := TX5) (N := 16) rfl rfl (Nat.lt_of_succ_le (Nat.le_of_ble_eq_true rfl)) rfl rfl (Nat.le_of_ble_eq_true rfl) ⟨Nat.le_of_ble_eq_true rfl, Nat.le_of_ble_eq_true rfl⟩ rfl (fun q_2 => ?_)
    refine w_aload_n (q := 23) (i := 0) (j := 0) hc dX7_feed_22 rfl rfl rfl ?_
    refine gf_X7_10 (q := 26) hc dX7_feed_23 (k_0 hK) (r_0_0 hR) rfl ?_
    refine w_iload_n (q := 27) (i := 2) (j := 2) hc dX7_feed_26 rfl rfl rfl ?_
    refine w_callV_Wv (q := 30) (st := []) (args := [.int a2]) (p := 1) hc (m_X5_append hK hR) dX7_feed_27 ml_X7_49 cf_X5_append iv_X5_append (k_1 hK) (C := RX5) (T := TX5) (N := 16) rfl rfl (Nat.lt_of_succ_le (Nat.le_of_ble_eq_true rfl)) rfl rfl (Nat.le_of_ble_eq_true rfl) ⟨Nat.le_of_ble_eq_true rfl, Nat.le_of_ble_eq_true rfl⟩ rfl (fun q_3 => ?_)
    refine w_aload_n (q := 31) (i := 0) (j := 0) hc dX7_feed_30 rfl rfl rfl ?_
    refine gf_X7_10 (q := 34) hc dX7_feed_31 (k_0 hK) (r_0_0 hR) rfl ?_
    refine w_iload_n (q := 35) (i := 3) (j := 3) hc dX7_feed_34 rfl rfl rfl ?_
    refine w_callV_Wv (q := 38) (st := []) (args := [.int a3]) (p := 1) hc (m_X5_append hK hR) dX7_feed_35 ml_X7_49 cf_X5_append iv_X5_append (k_1 hK) (C := RX5) (T := TX5) (N := 16) rfl rfl (Nat.lt_of_succ_le (Nat.le_of_ble_eq_true rfl)) rfl rfl (Nat.le_of_ble_eq_true rfl) ⟨Nat.le_of_ble_eq_true rfl, Nat.le_of_ble_eq_true rfl⟩ rfl (fun q_4 => ?_)
    refine w_aload_n (q := 39) (i := 0) (j := 0) hc dX7_feed_38 rfl rfl rfl ?_
    refine gf_X7_10 (q := 42) hc dX7_feed_39 (k_0 hK) (r_0_0 hR) rfl ?_
    refine w_iload (q := 44) (i := 4) (j := 4) hc dX7_feed_42 rfl rfl ?_
    refine w_callV_Wv (q := 47) (st := []) (args := [.int a4]) (p := 1) hc (m_X5_append hK hR) dX7_feed_44 ml_X7_49 cf_X5_append iv_X5_append (k_1 hK) (C := RX5) (T := TX5) (N := 16) rfl rfl (Nat.lt_of_succ_le (Nat.le_of_ble_eq_true rfl)) rfl rfl (Nat.le_of_ble_eq_true rfl) ⟨Nat.le_of_ble_eq_true rfl, Nat.le_of_ble_eq_true rfl⟩ rfl (fun q_5 => ?_)
    refine w_aload_n (q := 48) (i := 0) (j := 0) hc dX7_feed_47 rfl rfl rfl ?_
    refine gf_X7_10 (q := 51) hc dX7_feed_48 (k_0 hK) (r_0_0 hR) rfl ?_
    refine w_iload (q := 53) (i := 5) (j := 5) hc dX7_feed_51 rfl rfl ?_
    refine w_callV_Wv (q := 56) (st := []) (args := [.int a5]) (p := 1) hc (m_X5_append hK hR) dX7_feed_53 ml_X7_49 cf_X5_append iv_X5_append (k_1 hK) (C := RX5) (T := TX5) (N := 16) rfl rfl (Nat.lt_of_succ_le (Nat.le_of_ble_eq_true rfl)) rfl rfl (Nat.le_of_ble_eq_true rfl) ⟨Nat.le_of_ble_eq_true rfl, Nat.le_of_ble_eq_true rfl⟩ rfl (fun q_6 => ?_)
    refine w_aload_n (q := 57) (i := 0) (j := 0) hc dX7_feed_56 rfl rfl rfl ?_
    refine gf_X7_10 (q := 60) hc dX7_feed_57 (k_0 hK) (r_0_0 hR) rfl ?_
    refine gf_X7_53 (q := 63) hc dX7_feed_60 (k_1 hK) rfl ?_
    exact w_ireturn (v := (q_6.1 1 1)) hc hq dX7_feed_63 rfl rfl rfl
set_option maxRecDepth 100000 in
set_option maxHeartbeats 4000000 in
theorem m_X7_refuse {l : Launch} {K : KT} {R : MR} {rm : Nat} {a1 : Int32} {I : MI} {L : ML} (hK0 : K = lK rm) (hR0 : R = lR rm) : MFg l yX7_refuse cX7_refuse 2 (some .int) 0 0 [.ref 0, .int a1] K R I L anIW meW (f_X7_refuse a1 I L) := by
  refine mf_of (plainFor_of_name (by decide)) (Nat.le_of_ble_eq_true rfl) ?_
  intro G hc _ hK1 hR1 hn hq
  have hK := hK1.trans hK0
  have hR := hR1.trans hR0
  have hN : ∀ i, Nat.blt i 2 = true → i < gnL G := fun i h => hn ▸ Nat.blt_eq.mp h
  unfold f_X7_refuse
  show WW G 0 [(0, .ref 0), (1, .int a1)] [] I L _
  refine w_aload_n (q := 1) (i := 0) (j := 0) hc dX7_refuse_0 rfl rfl rfl ?_
  refine w_iload_n (q := 2) (i := 1) (j := 1) hc dX7_refuse_1 rfl rfl rfl ?_
  refine pf_X7_42 (q := 5) hc dX7_refuse_2 (k_0 hK) rfl (fun I_1 => ?_)
  refine w_iconst (q := 6) hc dX7_refuse_5 ci_m1 rfl ?_
  exact w_ireturn (v := (-1)) hc hq dX7_refuse_6 rfl rfl rfl
set_option maxRecDepth 100000 in
set_option maxHeartbeats 4000000 in
theorem m_X7_tell {l : Launch} {K : KT} {R : MR} {rm : Nat} {a1 : Int32} {I : MI} {L : ML} (hK0 : K = lK rm) (hR0 : R = lR rm) : MFg l yX7_tell cX7_tell 2 (some .int) 0 0 [.ref 0, .int a1] K R I L anIW meW (f_X7_tell a1 I L) := by
  refine mf_of (plainFor_of_name (by decide)) (Nat.le_of_ble_eq_true rfl) ?_
  intro G hc _ hK1 hR1 hn hq
  have hK := hK1.trans hK0
  have hR := hR1.trans hR0
  have hN : ∀ i, Nat.blt i 2 = true → i < gnL G := fun i h => hn ▸ Nat.blt_eq.mp h
  unfold f_X7_tell
  show WW G 0 [(0, .ref 0), (1, .int a1)] [] I L _
  refine w_aload_n (q := 1) (i := 0) (j := 0) hc dX7_tell_0 rfl rfl rfl ?_
  refine w_iconst (q := 2) hc dX7_tell_1 ci_0 rfl ?_
  refine pf_X7_42 (q := 5) hc dX7_tell_2 (k_0 hK) rfl (fun I_1 => ?_)
  refine w_iload_n (q := 6) (i := 1) (j := 1) hc dX7_tell_5 rfl rfl rfl ?_
  exact w_ireturn (v := a1) hc hq dX7_tell_6 rfl rfl rfl
set_option maxRecDepth 100000 in
set_option maxHeartbeats 4000000 in
theorem m_X7_load {l : Launch} {K : KT} {R : MR} {rm : Nat} {a1 : Int32} {I : MI} {L : ML} (hK0 : K = lK rm) (hR0 : R = lR rm) : MFg l yX7_load cX7_load 2 (some .int) 10 215 [.ref 0, .int a1] K R I L anIW meW (f_X7_load a1 I L) := by
  refine mf_of (plainFor_of_name (by decide)) (Nat.le_of_ble_eq_true rfl) ?_
  intro G hc _ hK1 hR1 hn hq
  have hK := hK1.trans hK0
  have hR := hR1.trans hR0
  have hN : ∀ i, Nat.blt i 2 = true → i < gnL G := fun i h => hn ▸ Nat.blt_eq.mp h
  unfold f_X7_load
  show WW G 0 [(0, .ref 0), (1, .int a1)] [] I L _
  refine w_iload_n (q := 1) (i := 1) (j := 1) hc dX7_load_0 rfl rfl rfl ?_
  refine w_iflt (q := 4) (tgt := 15) hc dX7_load_1 rfl rfl ?_ ?_
  · refine w_aload_n (q := 16) (i := 0) (j := 0) hc dX7_load_15 rfl rfl rfl ?_
    refine w_iconst (q := 17) hc dX7_load_16 ci_1 rfl ?_
    refine w_callV_Wi (q := 20) (st := []) (args := [.int 1]) (p := 0) hc (m_X7_refuse hK hR) dX7_load_17 ml_X7_56 cf_X7_refuse iv_X7_refuse (k_0 hK) (C := RX7) (T := TX7) (N := 7) rfl rfl (Nat.lt_of_succ_le (Nat.le_of_ble_eq_true rfl)) rfl rfl (Nat.le_of_ble_eq_true rfl) ⟨Nat.le_of_ble_eq_true rfl, Nat.le_of_ble_eq_true rfl⟩ rfl (fun q_1 => ?_)
    exact w_ireturn (v := q_1.1) hc hq dX7_load_20 rfl rfl rfl
  · refine w_iload_n (q := 5) (i := 1) (j := 1) hc dX7_load_4 rfl rfl rfl ?_
    refine w_aload_n (q := 6) (i := 0) (j := 0) hc dX7_load_5 rfl rfl rfl ?_
    refine gf_X7_10 (q := 9) hc dX7_load_6 (k_0 hK) (r_0_0 hR) rfl ?_
    refine gf_X7_53 (q := 12) hc dX7_load_9 (k_1 hK) rfl ?_
    refine w_icmple (q := 15) (tgt := 21) hc dX7_load_12 rfl rfl ?_ ?_
    · refine w_aload_n (q := 22) (i := 0) (j := 0) hc dX7_load_21 rfl rfl rfl ?_
      refine gf_X7_10 (q := 25) hc dX7_load_22 (k_0 hK) (r_0_0 hR) rfl ?_
      refine w_iload_n (q := 26) (i := 1) (j := 1) hc dX7_load_25 rfl rfl rfl ?_
      refine w_callV_Wz (q := 29) (st := []) (args := [.int a1]) (p := 1) hc (m_X5_parse hK hR) dX7_load_26 ml_X7_60 cf_X5_parse iv_X5_parse (k_1 hK) (C := RX5) (T := TX5) (N := 16) rfl rfl (Nat.lt_of_succ_le (Nat.le_of_ble_eq_true rfl)) rfl rfl (Nat.le_of_ble_eq_true rfl) ⟨Nat.le_of_ble_eq_true rfl, Nat.le_of_ble_eq_true rfl⟩ rfl (fun q_2 => ?_)
      refine w_ifne (q := 32) (tgt := 39) hc dX7_load_29 rfl rfl ?_ ?_
      · refine w_aload_n (q := 33) (i := 0) (j := 0) hc dX7_load_32 rfl rfl rfl ?_
        refine w_bipush (q := 35) hc dX7_load_33 cb_9 rfl ?_
        refine w_callV_Wi (q := 38) (st := []) (args := [.int 9]) (p := 0) hc (m_X7_refuse hK hR) dX7_load_35 ml_X7_56 cf_X7_refuse iv_X7_refuse (k_0 hK) (C := RX7) (T := TX7) (N := 7) rfl rfl (Nat.lt_of_succ_le (Nat.le_of_ble_eq_true rfl)) rfl rfl (Nat.le_of_ble_eq_true rfl) ⟨Nat.le_of_ble_eq_true rfl, Nat.le_of_ble_eq_true rfl⟩ rfl (fun q_8 => ?_)
        exact w_ireturn (v := q_8.1) hc hq dX7_load_38 rfl rfl rfl
      · refine w_aload_n (q := 40) (i := 0) (j := 0) hc dX7_load_39 rfl rfl rfl ?_
        refine gf_X7_19 (q := 43) hc dX7_load_40 (k_0 hK) (r_0_1 hR) rfl ?_
        refine w_aload_n (q := 44) (i := 0) (j := 0) hc dX7_load_43 rfl rfl rfl ?_
        refine gf_X7_10 (q := 47) hc dX7_load_44 (k_0 hK) (r_0_0 hR) rfl ?_
        refine gf_X7_63 (q := 50) hc dX7_load_47 (k_1 hK) rfl ?_
        refine w_aload_n (q := 51) (i := 0) (j := 0) hc dX7_load_50 rfl rfl rfl ?_
        refine gf_X7_10 (q := 54) hc dX7_load_51 (k_0 hK) (r_0_0 hR) rfl ?_
        refine gf_X7_66 (q := 57) hc dX7_load_54 (k_1 hK) (r_1_9 hR) rfl ?_
        refine w_aload_n (q := 58) (i := 0) (j := 0) hc dX7_load_57 rfl rfl rfl ?_
        refine gf_X7_10 (q := 61) hc dX7_load_58 (k_0 hK) (r_0_0 hR) rfl ?_
        refine gf_X7_70 (q := 64) hc dX7_load_61 (k_1 hK) rfl ?_
        refine w_callV_Wv (q := 67) (st := []) (args := [.int (q_2.2.1 1 7), .ref 3, .int (q_2.2.1 1 8)]) (p := 6) hc (m_X2_become hK hR (kB hK (k_3 hK))) dX7_load_64 ml_X7_73 cf_X2_become iv_X2_become (k_6 hK) (C := RX2) (T := TX2) (N := 13) rfl rfl (Nat.lt_of_succ_le (Nat.le_of_ble_eq_true rfl)) rfl rfl (Nat.le_of_ble_eq_true rfl) ⟨Nat.le_of_ble_eq_true rfl, Nat.le_of_ble_eq_true rfl⟩ rfl (fun q_3 => ?_)
        refine w_aload_n (q := 68) (i := 0) (j := 0) hc dX7_load_67 rfl rfl rfl ?_
        refine w_aload_n (q := 69) (i := 0) (j := 0) hc dX7_load_68 rfl rfl rfl ?_
        refine gf_X7_10 (q := 72) hc dX7_load_69 (k_0 hK) (r_0_0 hR) rfl ?_
        refine gf_X7_63 (q := 75) hc dX7_load_72 (k_1 hK) rfl ?_
        refine w_callS_Rl (q := 78) (st := [.ref 0]) (args := [.int (q_3.1 1 7)]) hc (m_X6_identity hK hR) dX7_load_75 ml_X7_77 cf_X6_identity st_X6_identity rfl rfl (Nat.le_of_ble_eq_true rfl) ⟨Nat.le_of_ble_eq_true rfl, Nat.le_of_ble_eq_true rfl⟩ rfl (fun q_4 => ?_)
        refine pf_X7_38 (q := 81) hc dX7_load_78 (k_0 hK) rfl (fun L_5 => ?_)
        refine w_aload_n (q := 82) (i := 0) (j := 0) hc dX7_load_81 rfl rfl rfl ?_
        refine gf_X7_26 (q := 85) hc dX7_load_82 (k_0 hK) (r_0_2 hR) rfl ?_
        refine w_callV_Wv (q := 88) (st := []) (args := []) (p := 37) hc (m_X3_forget hK hR) dX7_load_85 ml_X7_83 cf_X3_forget iv_X3_forget (k_37 hK) (C := RX3) (T := TX3) (N := 7) rfl rfl (Nat.lt_of_succ_le (Nat.le_of_ble_eq_true rfl)) rfl rfl (Nat.le_of_ble_eq_true rfl) ⟨Nat.le_of_ble_eq_true rfl, Nat.le_of_ble_eq_true rfl⟩ rfl (fun q_6 => ?_)
        refine w_aload_n (q := 89) (i := 0) (j := 0) hc dX7_load_88 rfl rfl rfl ?_
        refine w_aload_n (q := 90) (i := 0) (j := 0) hc dX7_load_89 rfl rfl rfl ?_
        refine gf_X7_10 (q := 93) hc dX7_load_90 (k_0 hK) (r_0_0 hR) rfl ?_
        refine gf_X7_70 (q := 96) hc dX7_load_93 (k_1 hK) rfl ?_
        refine w_callV_Wi (q := 99) (st := []) (args := [.int (q_6.1 1 8)]) (p := 0) hc (m_X7_tell hK hR) dX7_load_96 ml_X7_86 cf_X7_tell iv_X7_tell (k_0 hK) (C := RX7) (T := TX7) (N := 7) rfl rfl (Nat.lt_of_succ_le (Nat.le_of_ble_eq_true rfl)) rfl rfl (Nat.le_of_ble_eq_true rfl) ⟨Nat.le_of_ble_eq_true rfl, Nat.le_of_ble_eq_true rfl⟩ rfl (fun q_7 => ?_)
        exact w_ireturn (v := q_7.1) hc hq dX7_load_99 rfl rfl rfl
    · refine w_aload_n (q := 16) (i := 0) (j := 0) hc dX7_load_15 rfl rfl rfl ?_
      refine w_iconst (q := 17) hc dX7_load_16 ci_1 rfl ?_
      refine w_callV_Wi (q := 20) (st := []) (args := [.int 1]) (p := 0) hc (m_X7_refuse hK hR) dX7_load_17 ml_X7_56 cf_X7_refuse iv_X7_refuse (k_0 hK) (C := RX7) (T := TX7) (N := 7) rfl rfl (Nat.lt_of_succ_le (Nat.le_of_ble_eq_true rfl)) rfl rfl (Nat.le_of_ble_eq_true rfl) ⟨Nat.le_of_ble_eq_true rfl, Nat.le_of_ble_eq_true rfl⟩ rfl (fun q_9 => ?_)
      exact w_ireturn (v := q_9.1) hc hq dX7_load_20 rfl rfl rfl
set_option maxRecDepth 100000 in
set_option maxHeartbeats 4000000 in
theorem m_X7_fault {l : Launch} {K : KT} {R : MR} {rm : Nat} {a1 : Int32} {I : MI} {L : ML} (hK0 : K = lK rm) (hR0 : R = lR rm) : MFg l yX7_fault cX7_fault 2 (some .int) 0 0 [.ref 0, .int a1] K R I L anI (meR I L) (f_X7_fault a1 I L) := by
  refine mf_of (plainFor_of_name (by decide)) (Nat.le_of_ble_eq_true rfl) ?_
  intro G hc _ hK1 hR1 hn hq
  have hK := hK1.trans hK0
  have hR := hR1.trans hR0
  have hN : ∀ i, Nat.blt i 2 = true → i < gnL G := fun i h => hn ▸ Nat.blt_eq.mp h
  unfold f_X7_fault
  show WW G 0 [(0, .ref 0), (1, .int a1)] [] I L _
  refine w_iload_n (q := 1) (i := 1) (j := 1) hc dX7_fault_0 rfl rfl rfl ?_
  refine w_ifne (q := 4) (tgt := 12) hc dX7_fault_1 rfl rfl ?_ ?_
  · refine w_aload_n (q := 5) (i := 0) (j := 0) hc dX7_fault_4 rfl rfl rfl ?_
    refine gf_X7_10 (q := 8) hc dX7_fault_5 (k_0 hK) (r_0_0 hR) rfl ?_
    refine gf_X7_89 (q := 11) hc dX7_fault_8 (k_1 hK) rfl ?_
    exact w_ireturn (v := (I 1 14)) hc hq dX7_fault_11 rfl rfl rfl
  · refine w_iload_n (q := 13) (i := 1) (j := 1) hc dX7_fault_12 rfl rfl rfl ?_
    refine w_iconst (q := 14) hc dX7_fault_13 ci_1 rfl ?_
    refine w_icmpne (q := 17) (tgt := 27) hc dX7_fault_14 rfl rfl ?_ ?_
    · refine w_aload_n (q := 18) (i := 0) (j := 0) hc dX7_fault_17 rfl rfl rfl ?_
      refine gf_X7_10 (q := 21) hc dX7_fault_18 (k_0 hK) (r_0_0 hR) rfl ?_
      refine gf_X7_92 (q := 24) hc dX7_fault_21 (k_1 hK) rfl ?_
      refine w_goto (tgt := 28) hc dX7_fault_24 rfl ?_
      exact w_ireturn (v := (I 1 15)) hc hq dX7_fault_28 rfl rfl rfl
    · refine w_iconst (q := 28) hc dX7_fault_27 ci_m1 rfl ?_
      exact w_ireturn (v := (-1)) hc hq dX7_fault_28 rfl rfl rfl
set_option maxRecDepth 100000 in
set_option maxHeartbeats 4000000 in
theorem m_X7_isHome {l : Launch} {K : KT} {R : MR} {rm : Nat} {a1 : Int64} {I : MI} {L : ML} (hK0 : K = lK rm) (hR0 : R = lR rm) : MFg l yX7_isHome cX7_isHome 3 (some .boolean) 1 23 [.ref 0, .long a1] K R I L anZ (meR I L) (f_X7_isHome a1 I L) := by
  refine mf_of (plainFor_of_name (by decide)) (Nat.le_of_ble_eq_true rfl) ?_
  intro G hc _ hK1 hR1 hn hq
  have hK := hK1.trans hK0
  have hR := hR1.trans hR0
  have hN : ∀ i, Nat.blt i 3 = true → i < gnL G := fun i h => hn ▸ Nat.blt_eq.mp h
  unfold f_X7_isHome
  show WW G 0 [(0, .ref 0), (1, .long a1)] [] I L _
  refine w_lload_n (q := 1) (i := 1) (j := 1) hc dX7_isHome_0 rfl rfl rfl ?_
  refine w_aload_n (q := 2) (i := 0) (j := 0) hc dX7_isHome_1 rfl rfl rfl ?_
  refine gf_X7_19 (q := 5) hc dX7_isHome_2 (k_0 hK) (r_0_1 hR) rfl ?_
  refine gf_X7_95 (q := 8) hc dX7_isHome_5 (k_6 hK) rfl ?_
  refine w_callS_Rl (q := 11) (st := [.long a1]) (args := [.int (I 6 0)]) hc (m_X6_identity hK hR) dX7_isHome_8 ml_X7_77 cf_X6_identity st_X6_identity rfl rfl (Nat.le_of_ble_eq_true rfl) ⟨Nat.le_of_ble_eq_true rfl, Nat.le_of_ble_eq_true rfl⟩ rfl (fun q_1 => ?_)
  refine w_lcmp (q := 12) hc dX7_isHome_11  rfl ?_
  refine w_ifne (q := 15) (tgt := 19) hc dX7_isHome_12 rfl rfl ?_ ?_
  · refine w_iconst (q := 16) hc dX7_isHome_15 ci_1 rfl ?_
    refine w_goto (tgt := 20) hc dX7_isHome_16 rfl ?_
    exact w_ireturn (v := b2i true) hc hq dX7_isHome_20 (nar_b2i true) rfl rfl
  · refine w_iconst (q := 20) hc dX7_isHome_19 ci_0 rfl ?_
    exact w_ireturn (v := b2i false) hc hq dX7_isHome_20 (nar_b2i false) rfl rfl
set_option maxRecDepth 100000 in
set_option maxHeartbeats 4000000 in
theorem m_X7_many {l : Launch} {K : KT} {R : MR} {rm : Nat} {a1 : Int32} {I : MI} {L : ML} (hK0 : K = lK rm) (hR0 : R = lR rm) : MFg l yX7_many cX7_many 2 (some .int) 2 45 [.ref 0, .int a1] K R I L anIW meW (f_X7_many a1 I L) := by
  refine mf_of (plainFor_of_name (by decide)) (Nat.le_of_ble_eq_true rfl) ?_
  intro G hc _ hK1 hR1 hn hq
  have hK := hK1.trans hK0
  have hR := hR1.trans hR0
  have hN : ∀ i, Nat.blt i 2 = true → i < gnL G := fun i h => hn ▸ Nat.blt_eq.mp h
  unfold f_X7_many
  show WW G 0 [(0, .ref 0), (1, .int a1)] [] I L _
  refine w_iload_n (q := 1) (i := 1) (j := 1) hc dX7_many_0 rfl rfl rfl ?_
  refine w_tsw4 hc dX7_many_1 rfl rfl rfl rfl rfl ?_ ?_ ?_ ?_ ?_
  · refine w_aload_n (q := 33) (i := 0) (j := 0) hc dX7_many_32 rfl rfl rfl ?_
    refine w_aload_n (q := 34) (i := 0) (j := 0) hc dX7_many_33 rfl rfl rfl ?_
    refine gf_X7_19 (q := 37) hc dX7_many_34 (k_0 hK) (r_0_1 hR) rfl ?_
    refine gf_X7_95 (q := 40) hc dX7_many_37 (k_6 hK) rfl ?_
    refine w_callV_Wi (q := 43) (st := []) (args := [.int (I 6 0)]) (p := 0) hc (m_X7_tell hK hR) dX7_many_40 ml_X7_86 cf_X7_tell iv_X7_tell (k_0 hK) (C := RX7) (T := TX7) (N := 7) rfl rfl (Nat.lt_of_succ_le (Nat.le_of_ble_eq_true rfl)) rfl rfl (Nat.le_of_ble_eq_true rfl) ⟨Nat.le_of_ble_eq_true rfl, Nat.le_of_ble_eq_true rfl⟩ rfl (fun q_1 => ?_)
    exact w_ireturn (v := q_1.1) hc hq dX7_many_43 rfl rfl rfl
  · refine w_aload_n (q := 45) (i := 0) (j := 0) hc dX7_many_44 rfl rfl rfl ?_
    refine w_aload_n (q := 46) (i := 0) (j := 0) hc dX7_many_45 rfl rfl rfl ?_
    refine gf_X7_19 (q := 49) hc dX7_many_46 (k_0 hK) (r_0_1 hR) rfl ?_
    refine gf_X7_96 (q := 52) hc dX7_many_49 (k_6 hK) rfl ?_
    refine w_callV_Wi (q := 55) (st := []) (args := [.int (I 6 1)]) (p := 0) hc (m_X7_tell hK hR) dX7_many_52 ml_X7_86 cf_X7_tell iv_X7_tell (k_0 hK) (C := RX7) (T := TX7) (N := 7) rfl rfl (Nat.lt_of_succ_le (Nat.le_of_ble_eq_true rfl)) rfl rfl (Nat.le_of_ble_eq_true rfl) ⟨Nat.le_of_ble_eq_true rfl, Nat.le_of_ble_eq_true rfl⟩ rfl (fun q_2 => ?_)
    exact w_ireturn (v := q_2.1) hc hq dX7_many_55 rfl rfl rfl
  · refine w_aload_n (q := 57) (i := 0) (j := 0) hc dX7_many_56 rfl rfl rfl ?_
    refine w_aload_n (q := 58) (i := 0) (j := 0) hc dX7_many_57 rfl rfl rfl ?_
    refine gf_X7_26 (q := 61) hc dX7_many_58 (k_0 hK) (r_0_2 hR) rfl ?_
    refine gf_X7_97 (q := 64) hc dX7_many_61 (k_37 hK) rfl ?_
    refine w_callV_Wi (q := 67) (st := []) (args := [.int (I 37 0)]) (p := 0) hc (m_X7_tell hK hR) dX7_many_64 ml_X7_86 cf_X7_tell iv_X7_tell (k_0 hK) (C := RX7) (T := TX7) (N := 7) rfl rfl (Nat.lt_of_succ_le (Nat.le_of_ble_eq_true rfl)) rfl rfl (Nat.le_of_ble_eq_true rfl) ⟨Nat.le_of_ble_eq_true rfl, Nat.le_of_ble_eq_true rfl⟩ rfl (fun q_3 => ?_)
    exact w_ireturn (v := q_3.1) hc hq dX7_many_67 rfl rfl rfl
  · refine w_aload_n (q := 69) (i := 0) (j := 0) hc dX7_many_68 rfl rfl rfl ?_
    refine w_aload_n (q := 70) (i := 0) (j := 0) hc dX7_many_69 rfl rfl rfl ?_
    refine w_aload_n (q := 71) (i := 0) (j := 0) hc dX7_many_70 rfl rfl rfl ?_
    refine gf_X7_38 (q := 74) hc dX7_many_71 (k_0 hK) rfl ?_
    refine w_callV_Rz (q := 77) (st := [.ref 0]) (args := [.long (L 0 5)]) (p := 0) hc (m_X7_isHome hK hR) dX7_many_74 ml_X7_100 cf_X7_isHome iv_X7_isHome (k_0 hK) (C := RX7) (T := TX7) (N := 7) rfl rfl (Nat.lt_of_succ_le (Nat.le_of_ble_eq_true rfl)) rfl rfl (Nat.le_of_ble_eq_true rfl) ⟨Nat.le_of_ble_eq_true rfl, Nat.le_of_ble_eq_true rfl⟩ rfl (fun q_4 => ?_)
    refine w_ifeq (q := 80) (tgt := 84) hc dX7_many_77 rfl rfl ?_ ?_
    · refine w_iconst (q := 85) hc dX7_many_84 ci_0 rfl ?_
      refine w_callV_Wi (q := 88) (st := []) (args := [.int 0]) (p := 0) hc (m_X7_tell hK hR) dX7_many_85 ml_X7_86 cf_X7_tell iv_X7_tell (k_0 hK) (C := RX7) (T := TX7) (N := 7) rfl rfl (Nat.lt_of_succ_le (Nat.le_of_ble_eq_true rfl)) rfl rfl (Nat.le_of_ble_eq_true rfl) ⟨Nat.le_of_ble_eq_true rfl, Nat.le_of_ble_eq_true rfl⟩ rfl (fun q_5 => ?_)
      exact w_ireturn (v := q_5.1) hc hq dX7_many_88 rfl rfl rfl
    · refine w_iconst (q := 81) hc dX7_many_80 ci_1 rfl ?_
      refine w_goto (tgt := 85) hc dX7_many_81 rfl ?_
      refine w_callV_Wi (q := 88) (st := []) (args := [.int 1]) (p := 0) hc (m_X7_tell hK hR) dX7_many_85 ml_X7_86 cf_X7_tell iv_X7_tell (k_0 hK) (C := RX7) (T := TX7) (N := 7) rfl rfl (Nat.lt_of_succ_le (Nat.le_of_ble_eq_true rfl)) rfl rfl (Nat.le_of_ble_eq_true rfl) ⟨Nat.le_of_ble_eq_true rfl, Nat.le_of_ble_eq_true rfl⟩ rfl (fun q_6 => ?_)
      exact w_ireturn (v := q_6.1) hc hq dX7_many_88 rfl rfl rfl
  · refine w_aload_n (q := 90) (i := 0) (j := 0) hc dX7_many_89 rfl rfl rfl ?_
    refine w_iconst (q := 91) hc dX7_many_90 ci_1 rfl ?_
    refine w_callV_Wi (q := 94) (st := []) (args := [.int 1]) (p := 0) hc (m_X7_refuse hK hR) dX7_many_91 ml_X7_56 cf_X7_refuse iv_X7_refuse (k_0 hK) (C := RX7) (T := TX7) (N := 7) rfl rfl (Nat.lt_of_succ_le (Nat.le_of_ble_eq_true rfl)) rfl rfl (Nat.le_of_ble_eq_true rfl) ⟨Nat.le_of_ble_eq_true rfl, Nat.le_of_ble_eq_true rfl⟩ rfl (fun q_7 => ?_)
    exact w_ireturn (v := q_7.1) hc hq dX7_many_94 rfl rfl rfl
set_option maxRecDepth 100000 in
set_option maxHeartbeats 4000000 in
theorem m_X7_tellTurn {l : Launch} {K : KT} {R : MR} {rm : Nat} {a1 : Int64} {I : MI} {L : ML} (hK0 : K = lK rm) (hR0 : R = lR rm) : MFg l yX7_tellTurn cX7_tellTurn 3 (some .long) 2 47 [.ref 0, .long a1] K R I L anLW meW (f_X7_tellTurn a1 I L) := by
  refine mf_of (plainFor_of_name (by decide)) (Nat.le_of_ble_eq_true rfl) ?_
  intro G hc _ hK1 hR1 hn hq
  have hK := hK1.trans hK0
  have hR := hR1.trans hR0
  have hN : ∀ i, Nat.blt i 3 = true → i < gnL G := fun i h => hn ▸ Nat.blt_eq.mp h
  unfold f_X7_tellTurn
  show WW G 0 [(0, .ref 0), (1, .long a1)] [] I L _
  refine w_aload_n (q := 1) (i := 0) (j := 0) hc dX7_tellTurn_0 rfl rfl rfl ?_
  refine w_iconst (q := 2) hc dX7_tellTurn_1 ci_0 rfl ?_
  refine pf_X7_42 (q := 5) hc dX7_tellTurn_2 (k_0 hK) rfl (fun I_1 => ?_)
  refine w_lload_n (q := 6) (i := 1) (j := 1) hc dX7_tellTurn_5 rfl rfl rfl ?_
  refine w_aload_n (q := 7) (i := 0) (j := 0) hc dX7_tellTurn_6 rfl rfl rfl ?_
  refine gf_X7_19 (q := 10) hc dX7_tellTurn_7 (k_0 hK) (r_0_1 hR) rfl ?_
  refine gf_X7_95 (q := 13) hc dX7_tellTurn_10 (k_6 hK) rfl ?_
  refine w_callS_Rl (q := 16) (st := []) (args := [.long a1, .int (I_1 6 0)]) hc (m_X6_toNumber hK hR) dX7_tellTurn_13 ml_X7_363 cf_X6_toNumber st_X6_toNumber rfl rfl (Nat.le_of_ble_eq_true rfl) ⟨Nat.le_of_ble_eq_true rfl, Nat.le_of_ble_eq_true rfl⟩ rfl (fun q_2 => ?_)
  exact w_lreturn hc hq dX7_tellTurn_16 rfl rfl
set_option maxRecDepth 100000 in
set_option maxHeartbeats 4000000 in
theorem m_X7_step {l : Launch} {K : KT} {R : MR} {rm : Nat} {a1 : Int32} {I : MI} {L : ML} (hK0 : K = lK rm) (hR0 : R = lR rm) : MFg l yX7_step cX7_step 2 (some .long) 3 69 [.ref 0, .int a1] K R I L anLW meW (f_X7_step a1 I L) := by
  refine mf_of (plainFor_of_name (by decide)) (Nat.le_of_ble_eq_true rfl) ?_
  intro G hc _ hK1 hR1 hn hq
  have hK := hK1.trans hK0
  have hR := hR1.trans hR0
  have hN : ∀ i, Nat.blt i 2 = true → i < gnL G := fun i h => hn ▸ Nat.blt_eq.mp h
  unfold f_X7_step
  show WW G 0 [(0, .ref 0), (1, .int a1)] [] I L _
  refine w_aload_n (q := 1) (i := 0) (j := 0) hc dX7_step_0 rfl rfl rfl ?_
  refine gf_X7_19 (q := 4) hc dX7_step_1 (k_0 hK) (r_0_1 hR) rfl ?_
  refine w_iload_n (q := 5) (i := 1) (j := 1) hc dX7_step_4 rfl rfl rfl ?_
  refine w_callV_Rz (q := 8) (st := []) (args := [.int a1]) (p := 6) hc (m_X2_hasStep hK hR) dX7_step_5 ml_X7_104 cf_X2_hasStep iv_X2_hasStep (k_6 hK) (C := RX2) (T := TX2) (N := 13) rfl rfl (Nat.lt_of_succ_le (Nat.le_of_ble_eq_true rfl)) rfl rfl (Nat.le_of_ble_eq_true rfl) ⟨Nat.le_of_ble_eq_true rfl, Nat.le_of_ble_eq_true rfl⟩ rfl (fun q_1 => ?_)
  refine w_ifne (q := 11) (tgt := 18) hc dX7_step_8 rfl rfl ?_ ?_
  · refine w_aload_n (q := 12) (i := 0) (j := 0) hc dX7_step_11 rfl rfl rfl ?_
    refine w_iconst (q := 13) hc dX7_step_12 ci_2 rfl ?_
    refine w_callV_Wi (q := 16) (st := []) (args := [.int 2]) (p := 0) hc (m_X7_refuse hK hR) dX7_step_13 ml_X7_56 cf_X7_refuse iv_X7_refuse (k_0 hK) (C := RX7) (T := TX7) (N := 7) rfl rfl (Nat.lt_of_succ_le (Nat.le_of_ble_eq_true rfl)) rfl rfl (Nat.le_of_ble_eq_true rfl) ⟨Nat.le_of_ble_eq_true rfl, Nat.le_of_ble_eq_true rfl⟩ rfl (fun q_4 => ?_)
    refine w_i2l (q := 17) hc dX7_step_16  rfl ?_
    exact w_lreturn hc hq dX7_step_17 rfl rfl
  · refine w_aload_n (q := 19) (i := 0) (j := 0) hc dX7_step_18 rfl rfl rfl ?_
    refine w_aload_n (q := 20) (i := 0) (j := 0) hc dX7_step_19 rfl rfl rfl ?_
    refine gf_X7_19 (q := 23) hc dX7_step_20 (k_0 hK) (r_0_1 hR) rfl ?_
    refine w_iload_n (q := 24) (i := 1) (j := 1) hc dX7_step_23 rfl rfl rfl ?_
    refine w_callV_Rl (q := 27) (st := [.ref 0]) (args := [.int a1]) (p := 6) hc (m_X2_turnOf hK hR) dX7_step_24 ml_X7_107 cf_X2_turnOf iv_X2_turnOf (k_6 hK) (C := RX2) (T := TX2) (N := 13) rfl rfl (Nat.lt_of_succ_le (Nat.le_of_ble_eq_true rfl)) rfl rfl (Nat.le_of_ble_eq_true rfl) ⟨Nat.le_of_ble_eq_true rfl, Nat.le_of_ble_eq_true rfl⟩ rfl (fun q_2 => ?_)
    refine w_callV_Wl (q := 30) (st := []) (args := [.long q_2]) (p := 0) hc (m_X7_tellTurn hK hR) dX7_step_27 ml_X7_110 cf_X7_tellTurn iv_X7_tellTurn (k_0 hK) (C := RX7) (T := TX7) (N := 7) rfl rfl (Nat.lt_of_succ_le (Nat.le_of_ble_eq_true rfl)) rfl rfl (Nat.le_of_ble_eq_true rfl) ⟨Nat.le_of_ble_eq_true rfl, Nat.le_of_ble_eq_true rfl⟩ rfl (fun q_3 => ?_)
    exact w_lreturn hc hq dX7_step_30 rfl rfl
set_option maxRecDepth 100000 in
set_option maxHeartbeats 4000000 in
theorem m_X7_stand {l : Launch} {K : KT} {R : MR} {rm : Nat} {I : MI} {L : ML} (hK0 : K = lK rm) (hR0 : R = lR rm) : MFg l yX7_stand cX7_stand 1 (some .long) 3 69 [.ref 0] K R I L anLW meW (f_X7_stand I L) := by
  refine mf_of (plainFor_of_name (by decide)) (Nat.le_of_ble_eq_true rfl) ?_
  intro G hc _ hK1 hR1 hn hq
  have hK := hK1.trans hK0
  have hR := hR1.trans hR0
  have hN : ∀ i, Nat.blt i 1 = true → i < gnL G := fun i h => hn ▸ Nat.blt_eq.mp h
  unfold f_X7_stand
  show WW G 0 [(0, .ref 0)] [] I L _
  refine w_aload_n (q := 1) (i := 0) (j := 0) hc dX7_stand_0 rfl rfl rfl ?_
  refine gf_X7_19 (q := 4) hc dX7_stand_1 (k_0 hK) (r_0_1 hR) rfl ?_
  refine gf_X7_95 (q := 7) hc dX7_stand_4 (k_6 hK) rfl ?_
  refine w_ifne (q := 10) (tgt := 17) hc dX7_stand_7 rfl rfl ?_ ?_
  · refine w_aload_n (q := 11) (i := 0) (j := 0) hc dX7_stand_10 rfl rfl rfl ?_
    refine w_iconst (q := 12) hc dX7_stand_11 ci_5 rfl ?_
    refine w_callV_Wi (q := 15) (st := []) (args := [.int 5]) (p := 0) hc (m_X7_refuse hK hR) dX7_stand_12 ml_X7_56 cf_X7_refuse iv_X7_refuse (k_0 hK) (C := RX7) (T := TX7) (N := 7) rfl rfl (Nat.lt_of_succ_le (Nat.le_of_ble_eq_true rfl)) rfl rfl (Nat.le_of_ble_eq_true rfl) ⟨Nat.le_of_ble_eq_true rfl, Nat.le_of_ble_eq_true rfl⟩ rfl (fun q_2 => ?_)
    refine w_i2l (q := 16) hc dX7_stand_15  rfl ?_
    exact w_lreturn hc hq dX7_stand_16 rfl rfl
  · refine w_aload_n (q := 18) (i := 0) (j := 0) hc dX7_stand_17 rfl rfl rfl ?_
    refine w_aload_n (q := 19) (i := 0) (j := 0) hc dX7_stand_18 rfl rfl rfl ?_
    refine gf_X7_38 (q := 22) hc dX7_stand_19 (k_0 hK) rfl ?_
    refine w_callV_Wl (q := 25) (st := []) (args := [.long (L 0 5)]) (p := 0) hc (m_X7_tellTurn hK hR) dX7_stand_22 ml_X7_110 cf_X7_tellTurn iv_X7_tellTurn (k_0 hK) (C := RX7) (T := TX7) (N := 7) rfl rfl (Nat.lt_of_succ_le (Nat.le_of_ble_eq_true rfl)) rfl rfl (Nat.le_of_ble_eq_true rfl) ⟨Nat.le_of_ble_eq_true rfl, Nat.le_of_ble_eq_true rfl⟩ rfl (fun q_1 => ?_)
    exact w_lreturn hc hq dX7_stand_25 rfl rfl
set_option maxRecDepth 100000 in
set_option maxHeartbeats 4000000 in
theorem m_X7_read {l : Launch} {K : KT} {R : MR} {rm : Nat} {a1 : Int64} {I : MI} {L : ML} (hK0 : K = lK rm) (hR0 : R = lR rm) : MFg l yX7_read cX7_read 3 (some .long) 1 29 [.ref 0, .long a1] K R I L anL (meR I L) (f_X7_read a1 I L) := by
  refine mf_of (plainFor_of_name (by decide)) (Nat.le_of_ble_eq_true rfl) ?_
  intro G hc _ hK1 hR1 hn hq
  have hK := hK1.trans hK0
  have hR := hR1.trans hR0
  have hN : ∀ i, Nat.blt i 3 = true → i < gnL G := fun i h => hn ▸ Nat.blt_eq.mp h
  unfold f_X7_read
  show WW G 0 [(0, .ref 0), (1, .long a1)] [] I L _
  refine w_lload_n (q := 1) (i := 1) (j := 1) hc dX7_read_0 rfl rfl rfl ?_
  refine w_aload_n (q := 2) (i := 0) (j := 0) hc dX7_read_1 rfl rfl rfl ?_
  refine gf_X7_19 (q := 5) hc dX7_read_2 (k_0 hK) (r_0_1 hR) rfl ?_
  refine gf_X7_95 (q := 8) hc dX7_read_5 (k_6 hK) rfl ?_
  refine w_callS_Rl (q := 11) (st := []) (args := [.long a1, .int (I 6 0)]) hc (m_X6_fromNumber hK hR) dX7_read_8 ml_X7_366 cf_X6_fromNumber st_X6_fromNumber rfl rfl (Nat.le_of_ble_eq_true rfl) ⟨Nat.le_of_ble_eq_true rfl, Nat.le_of_ble_eq_true rfl⟩ rfl (fun q_1 => ?_)
  exact w_lreturn hc hq dX7_read_11 rfl rfl
set_option maxRecDepth 100000 in
set_option maxHeartbeats 4000000 in
theorem m_X7_takes {l : Launch} {K : KT} {R : MR} {rm : Nat} {a1 : Int64} {a3 : Int32} {I : MI} {L : ML} (hK0 : K = lK rm) (hR0 : R = lR rm) : MFg l yX7_takes cX7_takes 6 (some .int) 2 51 [.ref 0, .long a1, .int a3] K R I L anIW meW (f_X7_takes a1 a3 I L) := by
  refine mf_of (plainFor_of_name (by decide)) (Nat.le_of_ble_eq_true rfl) ?_
  intro G hc _ hK1 hR1 hn hq
  have hK := hK1.trans hK0
  have hR := hR1.trans hR0
  have hN : ∀ i, Nat.blt i 6 = true → i < gnL G := fun i h => hn ▸ Nat.blt_eq.mp h
  unfold f_X7_takes
  show WW G 0 [(0, .ref 0), (1, .long a1), (3, .int a3)] [] I L _
  refine w_aload_n (q := 1) (i := 0) (j := 0) hc dX7_takes_0 rfl rfl rfl ?_
  refine w_lload_n (q := 2) (i := 1) (j := 1) hc dX7_takes_1 rfl rfl rfl ?_
  refine w_callV_Rl (q := 5) (st := []) (args := [.long a1]) (p := 0) hc (m_X7_read hK hR) dX7_takes_2 ml_X7_114 cf_X7_read iv_X7_read (k_0 hK) (C := RX7) (T := TX7) (N := 7) rfl rfl (Nat.lt_of_succ_le (Nat.le_of_ble_eq_true rfl)) rfl rfl (Nat.le_of_ble_eq_true rfl) ⟨Nat.le_of_ble_eq_true rfl, Nat.le_of_ble_eq_true rfl⟩ rfl (fun q_1 => ?_)
  refine w_lstore (q := 7) (i := 4) (lv' := [(4, .long q_1), (0, .ref 0), (1, .long a1), (3, .int a3)]) hc dX7_takes_5 (hN 5 rfl) rfl rfl ?_
  refine w_lload (q := 9) (i := 4) (j := 0) hc dX7_takes_7 rfl rfl ?_
  refine w_lconst (q := 10) hc dX7_takes_9 cl_0 rfl ?_
  refine w_lcmp (q := 11) hc dX7_takes_10  rfl ?_
  refine w_ifge (q := 14) (tgt := 20) hc dX7_takes_11 rfl rfl ?_ ?_
  · refine w_aload_n (q := 21) (i := 0) (j := 1) hc dX7_takes_20 rfl rfl rfl ?_
    refine gf_X7_19 (q := 24) hc dX7_takes_21 (k_0 hK) (r_0_1 hR) rfl ?_
    refine w_iload_n (q := 25) (i := 3) (j := 3) hc dX7_takes_24 rfl rfl rfl ?_
    refine w_callV_Rz (q := 28) (st := []) (args := [.int a3]) (p := 6) hc (m_X2_hasPoint hK hR) dX7_takes_25 ml_X7_117 cf_X2_hasPoint iv_X2_hasPoint (k_6 hK) (C := RX2) (T := TX2) (N := 13) rfl rfl (Nat.lt_of_succ_le (Nat.le_of_ble_eq_true rfl)) rfl rfl (Nat.le_of_ble_eq_true rfl) ⟨Nat.le_of_ble_eq_true rfl, Nat.le_of_ble_eq_true rfl⟩ rfl (fun q_2 => ?_)
    refine w_ifne (q := 31) (tgt := 37) hc dX7_takes_28 rfl rfl ?_ ?_
    · refine w_aload_n (q := 32) (i := 0) (j := 1) hc dX7_takes_31 rfl rfl rfl ?_
      refine w_iconst (q := 33) hc dX7_takes_32 ci_2 rfl ?_
      refine w_callV_Wi (q := 36) (st := []) (args := [.int 2]) (p := 0) hc (m_X7_refuse hK hR) dX7_takes_33 ml_X7_56 cf_X7_refuse iv_X7_refuse (k_0 hK) (C := RX7) (T := TX7) (N := 7) rfl rfl (Nat.lt_of_succ_le (Nat.le_of_ble_eq_true rfl)) rfl rfl (Nat.le_of_ble_eq_true rfl) ⟨Nat.le_of_ble_eq_true rfl, Nat.le_of_ble_eq_true rfl⟩ rfl (fun q_5 => ?_)
      exact w_ireturn (v := q_5.1) hc hq dX7_takes_36 rfl rfl rfl
    · refine w_aload_n (q := 38) (i := 0) (j := 1) hc dX7_takes_37 rfl rfl rfl ?_
      refine w_lload (q := 40) (i := 4) (j := 0) hc dX7_takes_38 rfl rfl ?_
      refine w_iload_n (q := 41) (i := 3) (j := 3) hc dX7_takes_40 rfl rfl rfl ?_
      refine w_callS_Ri (q := 44) (st := [.ref 0]) (args := [.long q_1, .int a3]) hc (m_X6_image hK hR) dX7_takes_41 ml_X7_120 cf_X6_image st_X6_image rfl rfl (Nat.le_of_ble_eq_true rfl) ⟨Nat.le_of_ble_eq_true rfl, Nat.le_of_ble_eq_true rfl⟩ rfl (fun q_3 => ?_)
      refine w_callV_Wi (q := 47) (st := []) (args := [.int q_3]) (p := 0) hc (m_X7_tell hK hR) dX7_takes_44 ml_X7_86 cf_X7_tell iv_X7_tell (k_0 hK) (C := RX7) (T := TX7) (N := 7) rfl rfl (Nat.lt_of_succ_le (Nat.le_of_ble_eq_true rfl)) rfl rfl (Nat.le_of_ble_eq_true rfl) ⟨Nat.le_of_ble_eq_true rfl, Nat.le_of_ble_eq_true rfl⟩ rfl (fun q_4 => ?_)
      exact w_ireturn (v := q_4.1) hc hq dX7_takes_47 rfl rfl rfl
  · refine w_aload_n (q := 15) (i := 0) (j := 1) hc dX7_takes_14 rfl rfl rfl ?_
    refine w_iconst (q := 16) hc dX7_takes_15 ci_1 rfl ?_
    refine w_callV_Wi (q := 19) (st := []) (args := [.int 1]) (p := 0) hc (m_X7_refuse hK hR) dX7_takes_16 ml_X7_56 cf_X7_refuse iv_X7_refuse (k_0 hK) (C := RX7) (T := TX7) (N := 7) rfl rfl (Nat.lt_of_succ_le (Nat.le_of_ble_eq_true rfl)) rfl rfl (Nat.le_of_ble_eq_true rfl) ⟨Nat.le_of_ble_eq_true rfl, Nat.le_of_ble_eq_true rfl⟩ rfl (fun q_6 => ?_)
    exact w_ireturn (v := q_6.1) hc hq dX7_takes_19 rfl rfl rfl
set_option maxRecDepth 100000 in
set_option maxHeartbeats 4000000 in
theorem m_X7_product {l : Launch} {K : KT} {R : MR} {rm : Nat} {a1 : Int64} {a3 : Int64} {I : MI} {L : ML} (hK0 : K = lK rm) (hR0 : R = lR rm) : MFg l yX7_product cX7_product 9 (some .long) 3 69 [.ref 0, .long a1, .long a3] K R I L anLW meW (f_X7_product a1 a3 I L) := by
  refine mf_of (plainFor_of_name (by decide)) (Nat.le_of_ble_eq_true rfl) ?_
  intro G hc _ hK1 hR1 hn hq
  have hK := hK1.trans hK0
  have hR := hR1.trans hR0
  have hN : ∀ i, Nat.blt i 9 = true → i < gnL G := fun i h => hn ▸ Nat.blt_eq.mp h
  unfold f_X7_product
  show WW G 0 [(0, .ref 0), (1, .long a1), (3, .long a3)] [] I L _
  refine w_aload_n (q := 1) (i := 0) (j := 0) hc dX7_product_0 rfl rfl rfl ?_
  refine w_lload_n (q := 2) (i := 1) (j := 1) hc dX7_product_1 rfl rfl rfl ?_
  refine w_callV_Rl (q := 5) (st := []) (args := [.long a1]) (p := 0) hc (m_X7_read hK hR) dX7_product_2 ml_X7_114 cf_X7_read iv_X7_read (k_0 hK) (C := RX7) (T := TX7) (N := 7) rfl rfl (Nat.lt_of_succ_le (Nat.le_of_ble_eq_true rfl)) rfl rfl (Nat.le_of_ble_eq_true rfl) ⟨Nat.le_of_ble_eq_true rfl, Nat.le_of_ble_eq_true rfl⟩ rfl (fun q_1 => ?_)
  refine w_lstore (q := 7) (i := 5) (lv' := [(5, .long q_1), (0, .ref 0), (1, .long a1), (3, .long a3)]) hc dX7_product_5 (hN 6 rfl) rfl rfl ?_
  refine w_aload_n (q := 8) (i := 0) (j := 1) hc dX7_product_7 rfl rfl rfl ?_
  refine w_lload_n (q := 9) (i := 3) (j := 3) hc dX7_product_8 rfl rfl rfl ?_
  refine w_callV_Rl (q := 12) (st := []) (args := [.long a3]) (p := 0) hc (m_X7_read hK hR) dX7_product_9 ml_X7_114 cf_X7_read iv_X7_read (k_0 hK) (C := RX7) (T := TX7) (N := 7) rfl rfl (Nat.lt_of_succ_le (Nat.le_of_ble_eq_true rfl)) rfl rfl (Nat.le_of_ble_eq_true rfl) ⟨Nat.le_of_ble_eq_true rfl, Nat.le_of_ble_eq_true rfl⟩ rfl (fun q_2 => ?_)
  refine w_lstore (q := 14) (i := 7) (lv' := [(7, .long q_2), (5, .long q_1), (0, .ref 0), (1, .long a1), (3, .long a3)]) hc dX7_product_12 (hN 8 rfl) rfl rfl ?_
  refine w_lload (q := 16) (i := 5) (j := 1) hc dX7_product_14 rfl rfl ?_
  refine w_lconst (q := 17) hc dX7_product_16 cl_0 rfl ?_
  refine w_lcmp (q := 18) hc dX7_product_17  rfl ?_
  refine w_iflt (q := 21) (tgt := 28) hc dX7_product_18 rfl rfl ?_ ?_
  · refine w_aload_n (q := 29) (i := 0) (j := 2) hc dX7_product_28 rfl rfl rfl ?_
    refine w_iconst (q := 30) hc dX7_product_29 ci_1 rfl ?_
    refine w_callV_Wi (q := 33) (st := []) (args := [.int 1]) (p := 0) hc (m_X7_refuse hK hR) dX7_product_30 ml_X7_56 cf_X7_refuse iv_X7_refuse (k_0 hK) (C := RX7) (T := TX7) (N := 7) rfl rfl (Nat.lt_of_succ_le (Nat.le_of_ble_eq_true rfl)) rfl rfl (Nat.le_of_ble_eq_true rfl) ⟨Nat.le_of_ble_eq_true rfl, Nat.le_of_ble_eq_true rfl⟩ rfl (fun q_3 => ?_)
    refine w_i2l (q := 34) hc dX7_product_33  rfl ?_
    exact w_lreturn hc hq dX7_product_34 rfl rfl
  · refine w_lload (q := 23) (i := 7) (j := 0) hc dX7_product_21 rfl rfl ?_
    refine w_lconst (q := 24) hc dX7_product_23 cl_0 rfl ?_
    refine w_lcmp (q := 25) hc dX7_product_24  rfl ?_
    refine w_ifge (q := 28) (tgt := 35) hc dX7_product_25 rfl rfl ?_ ?_
    · refine w_aload_n (q := 36) (i := 0) (j := 2) hc dX7_product_35 rfl rfl rfl ?_
      refine w_lload (q := 38) (i := 5) (j := 1) hc dX7_product_36 rfl rfl ?_
      refine w_lload (q := 40) (i := 7) (j := 0) hc dX7_product_38 rfl rfl ?_
      refine w_aload_n (q := 41) (i := 0) (j := 2) hc dX7_product_40 rfl rfl rfl ?_
      refine gf_X7_19 (q := 44) hc dX7_product_41 (k_0 hK) (r_0_1 hR) rfl ?_
      refine gf_X7_95 (q := 47) hc dX7_product_44 (k_6 hK) rfl ?_
      refine w_callS_Rl (q := 50) (st := [.ref 0]) (args := [.long q_1, .long q_2, .int (I 6 0)]) hc (m_X6_compose hK hR) dX7_product_47 ml_X7_124 cf_X6_compose st_X6_compose rfl rfl (Nat.le_of_ble_eq_true rfl) ⟨Nat.le_of_ble_eq_true rfl, Nat.le_of_ble_eq_true rfl⟩ rfl (fun q_4 => ?_)
      refine w_callV_Wl (q := 53) (st := []) (args := [.long q_4]) (p := 0) hc (m_X7_tellTurn hK hR) dX7_product_50 ml_X7_110 cf_X7_tellTurn iv_X7_tellTurn (k_0 hK) (C := RX7) (T := TX7) (N := 7) rfl rfl (Nat.lt_of_succ_le (Nat.le_of_ble_eq_true rfl)) rfl rfl (Nat.le_of_ble_eq_true rfl) ⟨Nat.le_of_ble_eq_true rfl, Nat.le_of_ble_eq_true rfl⟩ rfl (fun q_5 => ?_)
      exact w_lreturn hc hq dX7_product_53 rfl rfl
    · refine w_aload_n (q := 29) (i := 0) (j := 2) hc dX7_product_28 rfl rfl rfl ?_
      refine w_iconst (q := 30) hc dX7_product_29 ci_1 rfl ?_
      refine w_callV_Wi (q := 33) (st := []) (args := [.int 1]) (p := 0) hc (m_X7_refuse hK hR) dX7_product_30 ml_X7_56 cf_X7_refuse iv_X7_refuse (k_0 hK) (C := RX7) (T := TX7) (N := 7) rfl rfl (Nat.lt_of_succ_le (Nat.le_of_ble_eq_true rfl)) rfl rfl (Nat.le_of_ble_eq_true rfl) ⟨Nat.le_of_ble_eq_true rfl, Nat.le_of_ble_eq_true rfl⟩ rfl (fun q_6 => ?_)
      refine w_i2l (q := 34) hc dX7_product_33  rfl ?_
      exact w_lreturn hc hq dX7_product_34 rfl rfl
set_option maxRecDepth 100000 in
set_option maxHeartbeats 4000000 in
theorem m_X7_inverse {l : Launch} {K : KT} {R : MR} {rm : Nat} {a1 : Int64} {I : MI} {L : ML} (hK0 : K = lK rm) (hR0 : R = lR rm) : MFg l yX7_inverse cX7_inverse 5 (some .long) 3 69 [.ref 0, .long a1] K R I L anLW meW (f_X7_inverse a1 I L) := by
  refine mf_of (plainFor_of_name (by decide)) (Nat.le_of_ble_eq_true rfl) ?_
  intro G hc _ hK1 hR1 hn hq
  have hK := hK1.trans hK0
  have hR := hR1.trans hR0
  have hN : ∀ i, Nat.blt i 5 = true → i < gnL G := fun i h => hn ▸ Nat.blt_eq.mp h
  unfold f_X7_inverse
  show WW G 0 [(0, .ref 0), (1, .long a1)] [] I L _
  refine w_aload_n (q := 1) (i := 0) (j := 0) hc dX7_inverse_0 rfl rfl rfl ?_
  refine w_lload_n (q := 2) (i := 1) (j := 1) hc dX7_inverse_1 rfl rfl rfl ?_
  refine w_callV_Rl (q := 5) (st := []) (args := [.long a1]) (p := 0) hc (m_X7_read hK hR) dX7_inverse_2 ml_X7_114 cf_X7_read iv_X7_read (k_0 hK) (C := RX7) (T := TX7) (N := 7) rfl rfl (Nat.lt_of_succ_le (Nat.le_of_ble_eq_true rfl)) rfl rfl (Nat.le_of_ble_eq_true rfl) ⟨Nat.le_of_ble_eq_true rfl, Nat.le_of_ble_eq_true rfl⟩ rfl (fun q_1 => ?_)
  refine w_lstore_n (q := 6) (i := 3) (lv' := [(3, .long q_1), (0, .ref 0), (1, .long a1)]) hc dX7_inverse_5 rfl (hN 4 rfl) rfl rfl ?_
  refine w_lload_n (q := 7) (i := 3) (j := 0) hc dX7_inverse_6 rfl rfl rfl ?_
  refine w_lconst (q := 8) hc dX7_inverse_7 cl_0 rfl ?_
  refine w_lcmp (q := 9) hc dX7_inverse_8  rfl ?_
  refine w_ifge (q := 12) (tgt := 19) hc dX7_inverse_9 rfl rfl ?_ ?_
  · refine w_aload_n (q := 20) (i := 0) (j := 1) hc dX7_inverse_19 rfl rfl rfl ?_
    refine w_lload_n (q := 21) (i := 3) (j := 0) hc dX7_inverse_20 rfl rfl rfl ?_
    refine w_aload_n (q := 22) (i := 0) (j := 1) hc dX7_inverse_21 rfl rfl rfl ?_
    refine gf_X7_19 (q := 25) hc dX7_inverse_22 (k_0 hK) (r_0_1 hR) rfl ?_
    refine gf_X7_95 (q := 28) hc dX7_inverse_25 (k_6 hK) rfl ?_
    refine w_callS_Rl (q := 31) (st := [.ref 0]) (args := [.long q_1, .int (I 6 0)]) hc (m_X6_invert hK hR) dX7_inverse_28 ml_X7_128 cf_X6_invert st_X6_invert rfl rfl (Nat.le_of_ble_eq_true rfl) ⟨Nat.le_of_ble_eq_true rfl, Nat.le_of_ble_eq_true rfl⟩ rfl (fun q_2 => ?_)
    refine w_callV_Wl (q := 34) (st := []) (args := [.long q_2]) (p := 0) hc (m_X7_tellTurn hK hR) dX7_inverse_31 ml_X7_110 cf_X7_tellTurn iv_X7_tellTurn (k_0 hK) (C := RX7) (T := TX7) (N := 7) rfl rfl (Nat.lt_of_succ_le (Nat.le_of_ble_eq_true rfl)) rfl rfl (Nat.le_of_ble_eq_true rfl) ⟨Nat.le_of_ble_eq_true rfl, Nat.le_of_ble_eq_true rfl⟩ rfl (fun q_3 => ?_)
    exact w_lreturn hc hq dX7_inverse_34 rfl rfl
  · refine w_aload_n (q := 13) (i := 0) (j := 1) hc dX7_inverse_12 rfl rfl rfl ?_
    refine w_iconst (q := 14) hc dX7_inverse_13 ci_1 rfl ?_
    refine w_callV_Wi (q := 17) (st := []) (args := [.int 1]) (p := 0) hc (m_X7_refuse hK hR) dX7_inverse_14 ml_X7_56 cf_X7_refuse iv_X7_refuse (k_0 hK) (C := RX7) (T := TX7) (N := 7) rfl rfl (Nat.lt_of_succ_le (Nat.le_of_ble_eq_true rfl)) rfl rfl (Nat.le_of_ble_eq_true rfl) ⟨Nat.le_of_ble_eq_true rfl, Nat.le_of_ble_eq_true rfl⟩ rfl (fun q_4 => ?_)
    refine w_i2l (q := 18) hc dX7_inverse_17  rfl ?_
    exact w_lreturn hc hq dX7_inverse_18 rfl rfl
set_option maxRecDepth 100000 in
set_option maxHeartbeats 4000000 in
theorem m_X7_power {l : Launch} {K : KT} {R : MR} {rm : Nat} {a1 : Int64} {a3 : Int32} {I : MI} {L : ML} (hK0 : K = lK rm) (hR0 : R = lR rm) : MFg l yX7_power cX7_power 6 (some .long) 3 75 [.ref 0, .long a1, .int a3] K R I L anLW meW (f_X7_power a1 a3 I L) := by
  refine mf_of (plainFor_of_name (by decide)) (Nat.le_of_ble_eq_true rfl) ?_
  intro G hc _ hK1 hR1 hn hq
  have hK := hK1.trans hK0
  have hR := hR1.trans hR0
  have hN : ∀ i, Nat.blt i 6 = true → i < gnL G := fun i h => hn ▸ Nat.blt_eq.mp h
  unfold f_X7_power
  show WW G 0 [(0, .ref 0), (1, .long a1), (3, .int a3)] [] I L _
  refine w_aload_n (q := 1) (i := 0) (j := 0) hc dX7_power_0 rfl rfl rfl ?_
  refine w_lload_n (q := 2) (i := 1) (j := 1) hc dX7_power_1 rfl rfl rfl ?_
  refine w_callV_Rl (q := 5) (st := []) (args := [.long a1]) (p := 0) hc (m_X7_read hK hR) dX7_power_2 ml_X7_114 cf_X7_read iv_X7_read (k_0 hK) (C := RX7) (T := TX7) (N := 7) rfl rfl (Nat.lt_of_succ_le (Nat.le_of_ble_eq_true rfl)) rfl rfl (Nat.le_of_ble_eq_true rfl) ⟨Nat.le_of_ble_eq_true rfl, Nat.le_of_ble_eq_true rfl⟩ rfl (fun q_1 => ?_)
  refine w_lstore (q := 7) (i := 4) (lv' := [(4, .long q_1), (0, .ref 0), (1, .long a1), (3, .int a3)]) hc dX7_power_5 (hN 5 rfl) rfl rfl ?_
  refine w_lload (q := 9) (i := 4) (j := 0) hc dX7_power_7 rfl rfl ?_
  refine w_lconst (q := 10) hc dX7_power_9 cl_0 rfl ?_
  refine w_lcmp (q := 11) hc dX7_power_10  rfl ?_
  refine w_iflt (q := 14) (tgt := 28) hc dX7_power_11 rfl rfl ?_ ?_
  · refine w_aload_n (q := 29) (i := 0) (j := 1) hc dX7_power_28 rfl rfl rfl ?_
    refine w_iconst (q := 30) hc dX7_power_29 ci_1 rfl ?_
    refine w_callV_Wi (q := 33) (st := []) (args := [.int 1]) (p := 0) hc (m_X7_refuse hK hR) dX7_power_30 ml_X7_56 cf_X7_refuse iv_X7_refuse (k_0 hK) (C := RX7) (T := TX7) (N := 7) rfl rfl (Nat.lt_of_succ_le (Nat.le_of_ble_eq_true rfl)) rfl rfl (Nat.le_of_ble_eq_true rfl) ⟨Nat.le_of_ble_eq_true rfl, Nat.le_of_ble_eq_true rfl⟩ rfl (fun q_2 => ?_)
    refine w_i2l (q := 34) hc dX7_power_33  rfl ?_
    exact w_lreturn hc hq dX7_power_34 rfl rfl
  · refine w_iload_n (q := 15) (i := 3) (j := 3) hc dX7_power_14 rfl rfl rfl ?_
    refine w_sipush (q := 18) hc dX7_power_15 cs_m1000 rfl ?_
    refine w_icmplt (q := 21) (tgt := 28) hc dX7_power_18 rfl rfl ?_ ?_
    · refine w_aload_n (q := 29) (i := 0) (j := 1) hc dX7_power_28 rfl rfl rfl ?_
      refine w_iconst (q := 30) hc dX7_power_29 ci_1 rfl ?_
      refine w_callV_Wi (q := 33) (st := []) (args := [.int 1]) (p := 0) hc (m_X7_refuse hK hR) dX7_power_30 ml_X7_56 cf_X7_refuse iv_X7_refuse (k_0 hK) (C := RX7) (T := TX7) (N := 7) rfl rfl (Nat.lt_of_succ_le (Nat.le_of_ble_eq_true rfl)) rfl rfl (Nat.le_of_ble_eq_true rfl) ⟨Nat.le_of_ble_eq_true rfl, Nat.le_of_ble_eq_true rfl⟩ rfl (fun q_3 => ?_)
      refine w_i2l (q := 34) hc dX7_power_33  rfl ?_
      exact w_lreturn hc hq dX7_power_34 rfl rfl
    · refine w_iload_n (q := 22) (i := 3) (j := 3) hc dX7_power_21 rfl rfl rfl ?_
      refine w_sipush (q := 25) hc dX7_power_22 cs_1000 rfl ?_
      refine w_icmple (q := 28) (tgt := 35) hc dX7_power_25 rfl rfl ?_ ?_
      · refine w_aload_n (q := 36) (i := 0) (j := 1) hc dX7_power_35 rfl rfl rfl ?_
        refine w_lload (q := 38) (i := 4) (j := 0) hc dX7_power_36 rfl rfl ?_
        refine w_iload_n (q := 39) (i := 3) (j := 3) hc dX7_power_38 rfl rfl rfl ?_
        refine w_aload_n (q := 40) (i := 0) (j := 1) hc dX7_power_39 rfl rfl rfl ?_
        refine gf_X7_19 (q := 43) hc dX7_power_40 (k_0 hK) (r_0_1 hR) rfl ?_
        refine gf_X7_95 (q := 46) hc dX7_power_43 (k_6 hK) rfl ?_
        refine w_callS_Rl (q := 49) (st := [.ref 0]) (args := [.long q_1, .int a3, .int (I 6 0)]) hc (m_X6_raise hK hR) dX7_power_46 ml_X7_132 cf_X6_raise st_X6_raise rfl rfl (Nat.le_of_ble_eq_true rfl) ⟨Nat.le_of_ble_eq_true rfl, Nat.le_of_ble_eq_true rfl⟩ rfl (fun q_4 => ?_)
        refine w_callV_Wl (q := 52) (st := []) (args := [.long q_4]) (p := 0) hc (m_X7_tellTurn hK hR) dX7_power_49 ml_X7_110 cf_X7_tellTurn iv_X7_tellTurn (k_0 hK) (C := RX7) (T := TX7) (N := 7) rfl rfl (Nat.lt_of_succ_le (Nat.le_of_ble_eq_true rfl)) rfl rfl (Nat.le_of_ble_eq_true rfl) ⟨Nat.le_of_ble_eq_true rfl, Nat.le_of_ble_eq_true rfl⟩ rfl (fun q_5 => ?_)
        exact w_lreturn hc hq dX7_power_52 rfl rfl
      · refine w_aload_n (q := 29) (i := 0) (j := 1) hc dX7_power_28 rfl rfl rfl ?_
        refine w_iconst (q := 30) hc dX7_power_29 ci_1 rfl ?_
        refine w_callV_Wi (q := 33) (st := []) (args := [.int 1]) (p := 0) hc (m_X7_refuse hK hR) dX7_power_30 ml_X7_56 cf_X7_refuse iv_X7_refuse (k_0 hK) (C := RX7) (T := TX7) (N := 7) rfl rfl (Nat.lt_of_succ_le (Nat.le_of_ble_eq_true rfl)) rfl rfl (Nat.le_of_ble_eq_true rfl) ⟨Nat.le_of_ble_eq_true rfl, Nat.le_of_ble_eq_true rfl⟩ rfl (fun q_6 => ?_)
        refine w_i2l (q := 34) hc dX7_power_33  rfl ?_
        exact w_lreturn hc hq dX7_power_34 rfl rfl
set_option maxRecDepth 100000 in
set_option maxHeartbeats 4000000 in
theorem m_X7_about {l : Launch} {K : KT} {R : MR} {rm : Nat} {a1 : Int64} {a3 : Int32} {I : MI} {L : ML} (hK0 : K = lK rm) (hR0 : R = lR rm) : MFg l yX7_about cX7_about 8 (some .int) 3 73 [.ref 0, .long a1, .int a3] K R I L anIW meW (f_X7_about a1 a3 I L) := by
  refine mf_of (plainFor_of_name (by decide)) (Nat.le_of_ble_eq_true rfl) ?_
  intro G hc _ hK1 hR1 hn hq
  have hK := hK1.trans hK0
  have hR := hR1.trans hR0
  have hN : ∀ i, Nat.blt i 8 = true → i < gnL G := fun i h => hn ▸ Nat.blt_eq.mp h
  unfold f_X7_about
  show WW G 0 [(0, .ref 0), (1, .long a1), (3, .int a3)] [] I L _
  refine w_aload_n (q := 1) (i := 0) (j := 0) hc dX7_about_0 rfl rfl rfl ?_
  refine w_lload_n (q := 2) (i := 1) (j := 1) hc dX7_about_1 rfl rfl rfl ?_
  refine w_callV_Rl (q := 5) (st := []) (args := [.long a1]) (p := 0) hc (m_X7_read hK hR) dX7_about_2 ml_X7_114 cf_X7_read iv_X7_read (k_0 hK) (C := RX7) (T := TX7) (N := 7) rfl rfl (Nat.lt_of_succ_le (Nat.le_of_ble_eq_true rfl)) rfl rfl (Nat.le_of_ble_eq_true rfl) ⟨Nat.le_of_ble_eq_true rfl, Nat.le_of_ble_eq_true rfl⟩ rfl (fun q_1 => ?_)
  refine w_lstore (q := 7) (i := 4) (lv' := [(4, .long q_1), (0, .ref 0), (1, .long a1), (3, .int a3)]) hc dX7_about_5 (hN 5 rfl) rfl rfl ?_
  refine w_lload (q := 9) (i := 4) (j := 0) hc dX7_about_7 rfl rfl ?_
  refine w_lconst (q := 10) hc dX7_about_9 cl_0 rfl ?_
  refine w_lcmp (q := 11) hc dX7_about_10  rfl ?_
  refine w_ifge (q := 14) (tgt := 20) hc dX7_about_11 rfl rfl ?_ ?_
  · refine w_lload (q := 22) (i := 4) (j := 0) hc dX7_about_20 rfl rfl ?_
    refine w_aload_n (q := 23) (i := 0) (j := 1) hc dX7_about_22 rfl rfl rfl ?_
    refine gf_X7_19 (q := 26) hc dX7_about_23 (k_0 hK) (r_0_1 hR) rfl ?_
    refine gf_X7_95 (q := 29) hc dX7_about_26 (k_6 hK) rfl ?_
    refine w_callS_Rl (q := 32) (st := []) (args := [.long q_1, .int (I 6 0)]) hc (m_X6_shape hK hR) dX7_about_29 ml_X7_136 cf_X6_shape st_X6_shape rfl rfl (Nat.le_of_ble_eq_true rfl) ⟨Nat.le_of_ble_eq_true rfl, Nat.le_of_ble_eq_true rfl⟩ rfl (fun q_2 => ?_)
    refine w_lstore (q := 34) (i := 6) (lv' := [(6, .long q_2), (4, .long q_1), (0, .ref 0), (1, .long a1), (3, .int a3)]) hc dX7_about_32 (hN 7 rfl) rfl rfl ?_
    refine w_iload_n (q := 35) (i := 3) (j := 4) hc dX7_about_34 rfl rfl rfl ?_
    refine w_tsw5 hc dX7_about_35 rfl rfl rfl rfl rfl rfl ?_ ?_ ?_ ?_ ?_ ?_
    · refine w_aload_n (q := 69) (i := 0) (j := 2) hc dX7_about_68 rfl rfl rfl ?_
      refine w_lload (q := 71) (i := 6) (j := 0) hc dX7_about_69 rfl rfl ?_
      refine w_callS_Ri (q := 74) (st := [.ref 0]) (args := [.long q_2]) hc (m_X6_period hK hR) dX7_about_71 ml_X7_139 cf_X6_period st_X6_period rfl rfl (Nat.le_of_ble_eq_true rfl) ⟨Nat.le_of_ble_eq_true rfl, Nat.le_of_ble_eq_true rfl⟩ rfl (fun q_3 => ?_)
      refine w_callV_Wi (q := 77) (st := []) (args := [.int q_3]) (p := 0) hc (m_X7_tell hK hR) dX7_about_74 ml_X7_86 cf_X7_tell iv_X7_tell (k_0 hK) (C := RX7) (T := TX7) (N := 7) rfl rfl (Nat.lt_of_succ_le (Nat.le_of_ble_eq_true rfl)) rfl rfl (Nat.le_of_ble_eq_true rfl) ⟨Nat.le_of_ble_eq_true rfl, Nat.le_of_ble_eq_true rfl⟩ rfl (fun q_4 => ?_)
      exact w_ireturn (v := q_4.1) hc hq dX7_about_77 rfl rfl rfl
    · refine w_aload_n (q := 79) (i := 0) (j := 2) hc dX7_about_78 rfl rfl rfl ?_
      refine w_lload (q := 81) (i := 6) (j := 0) hc dX7_about_79 rfl rfl ?_
      refine w_callS_Ri (q := 84) (st := [.ref 0]) (args := [.long q_2]) hc (m_X6_cycles hK hR) dX7_about_81 ml_X7_143 cf_X6_cycles st_X6_cycles rfl rfl (Nat.le_of_ble_eq_true rfl) ⟨Nat.le_of_ble_eq_true rfl, Nat.le_of_ble_eq_true rfl⟩ rfl (fun q_5 => ?_)
      refine w_callV_Wi (q := 87) (st := []) (args := [.int q_5]) (p := 0) hc (m_X7_tell hK hR) dX7_about_84 ml_X7_86 cf_X7_tell iv_X7_tell (k_0 hK) (C := RX7) (T := TX7) (N := 7) rfl rfl (Nat.lt_of_succ_le (Nat.le_of_ble_eq_true rfl)) rfl rfl (Nat.le_of_ble_eq_true rfl) ⟨Nat.le_of_ble_eq_true rfl, Nat.le_of_ble_eq_true rfl⟩ rfl (fun q_6 => ?_)
      exact w_ireturn (v := q_6.1) hc hq dX7_about_87 rfl rfl rfl
    · refine w_aload_n (q := 89) (i := 0) (j := 2) hc dX7_about_88 rfl rfl rfl ?_
      refine w_lload (q := 91) (i := 6) (j := 0) hc dX7_about_89 rfl rfl ?_
      refine w_callS_Ri (q := 94) (st := [.ref 0]) (args := [.long q_2]) hc (m_X6_staying hK hR) dX7_about_91 ml_X7_146 cf_X6_staying st_X6_staying rfl rfl (Nat.le_of_ble_eq_true rfl) ⟨Nat.le_of_ble_eq_true rfl, Nat.le_of_ble_eq_true rfl⟩ rfl (fun q_7 => ?_)
      refine w_callV_Wi (q := 97) (st := []) (args := [.int q_7]) (p := 0) hc (m_X7_tell hK hR) dX7_about_94 ml_X7_86 cf_X7_tell iv_X7_tell (k_0 hK) (C := RX7) (T := TX7) (N := 7) rfl rfl (Nat.lt_of_succ_le (Nat.le_of_ble_eq_true rfl)) rfl rfl (Nat.le_of_ble_eq_true rfl) ⟨Nat.le_of_ble_eq_true rfl, Nat.le_of_ble_eq_true rfl⟩ rfl (fun q_8 => ?_)
      exact w_ireturn (v := q_8.1) hc hq dX7_about_97 rfl rfl rfl
    · refine w_aload_n (q := 99) (i := 0) (j := 2) hc dX7_about_98 rfl rfl rfl ?_
      refine w_lload (q := 101) (i := 4) (j := 1) hc dX7_about_99 rfl rfl ?_
      refine w_aload_n (q := 102) (i := 0) (j := 2) hc dX7_about_101 rfl rfl rfl ?_
      refine gf_X7_19 (q := 105) hc dX7_about_102 (k_0 hK) (r_0_1 hR) rfl ?_
      refine gf_X7_95 (q := 108) hc dX7_about_105 (k_6 hK) rfl ?_
      refine w_callS_Rz (q := 111) (st := [.ref 0]) (args := [.long q_1, .int (I 6 0)]) hc (m_X6_isEven hK hR) dX7_about_108 ml_X7_149 cf_X6_isEven st_X6_isEven rfl rfl (Nat.le_of_ble_eq_true rfl) ⟨Nat.le_of_ble_eq_true rfl, Nat.le_of_ble_eq_true rfl⟩ rfl (fun q_9 => ?_)
      refine w_ifeq (q := 114) (tgt := 118) hc dX7_about_111 rfl rfl ?_ ?_
      · refine w_iconst (q := 119) hc dX7_about_118 ci_0 rfl ?_
        refine w_callV_Wi (q := 122) (st := []) (args := [.int 0]) (p := 0) hc (m_X7_tell hK hR) dX7_about_119 ml_X7_86 cf_X7_tell iv_X7_tell (k_0 hK) (C := RX7) (T := TX7) (N := 7) rfl rfl (Nat.lt_of_succ_le (Nat.le_of_ble_eq_true rfl)) rfl rfl (Nat.le_of_ble_eq_true rfl) ⟨Nat.le_of_ble_eq_true rfl, Nat.le_of_ble_eq_true rfl⟩ rfl (fun q_10 => ?_)
        exact w_ireturn (v := q_10.1) hc hq dX7_about_122 rfl rfl rfl
      · refine w_iconst (q := 115) hc dX7_about_114 ci_1 rfl ?_
        refine w_goto (tgt := 119) hc dX7_about_115 rfl ?_
        refine w_callV_Wi (q := 122) (st := []) (args := [.int 1]) (p := 0) hc (m_X7_tell hK hR) dX7_about_119 ml_X7_86 cf_X7_tell iv_X7_tell (k_0 hK) (C := RX7) (T := TX7) (N := 7) rfl rfl (Nat.lt_of_succ_le (Nat.le_of_ble_eq_true rfl)) rfl rfl (Nat.le_of_ble_eq_true rfl) ⟨Nat.le_of_ble_eq_true rfl, Nat.le_of_ble_eq_true rfl⟩ rfl (fun q_11 => ?_)
        exact w_ireturn (v := q_11.1) hc hq dX7_about_122 rfl rfl rfl
    · refine w_aload_n (q := 124) (i := 0) (j := 2) hc dX7_about_123 rfl rfl rfl ?_
      refine w_lload (q := 126) (i := 4) (j := 1) hc dX7_about_124 rfl rfl ?_
      refine w_aload_n (q := 127) (i := 0) (j := 2) hc dX7_about_126 rfl rfl rfl ?_
      refine gf_X7_19 (q := 130) hc dX7_about_127 (k_0 hK) (r_0_1 hR) rfl ?_
      refine gf_X7_95 (q := 133) hc dX7_about_130 (k_6 hK) rfl ?_
      refine w_callS_Ri (q := 136) (st := [.ref 0]) (args := [.long q_1, .int (I 6 0)]) hc (m_X6_moved hK hR) dX7_about_133 ml_X7_153 cf_X6_moved st_X6_moved rfl rfl (Nat.le_of_ble_eq_true rfl) ⟨Nat.le_of_ble_eq_true rfl, Nat.le_of_ble_eq_true rfl⟩ rfl (fun q_12 => ?_)
      refine w_callV_Wi (q := 139) (st := []) (args := [.int q_12]) (p := 0) hc (m_X7_tell hK hR) dX7_about_136 ml_X7_86 cf_X7_tell iv_X7_tell (k_0 hK) (C := RX7) (T := TX7) (N := 7) rfl rfl (Nat.lt_of_succ_le (Nat.le_of_ble_eq_true rfl)) rfl rfl (Nat.le_of_ble_eq_true rfl) ⟨Nat.le_of_ble_eq_true rfl, Nat.le_of_ble_eq_true rfl⟩ rfl (fun q_13 => ?_)
      exact w_ireturn (v := q_13.1) hc hq dX7_about_139 rfl rfl rfl
    · refine w_aload_n (q := 141) (i := 0) (j := 2) hc dX7_about_140 rfl rfl rfl ?_
      refine w_iconst (q := 142) hc dX7_about_141 ci_1 rfl ?_
      refine w_callV_Wi (q := 145) (st := []) (args := [.int 1]) (p := 0) hc (m_X7_refuse hK hR) dX7_about_142 ml_X7_56 cf_X7_refuse iv_X7_refuse (k_0 hK) (C := RX7) (T := TX7) (N := 7) rfl rfl (Nat.lt_of_succ_le (Nat.le_of_ble_eq_true rfl)) rfl rfl (Nat.le_of_ble_eq_true rfl) ⟨Nat.le_of_ble_eq_true rfl, Nat.le_of_ble_eq_true rfl⟩ rfl (fun q_14 => ?_)
      exact w_ireturn (v := q_14.1) hc hq dX7_about_145 rfl rfl rfl
  · refine w_aload_n (q := 15) (i := 0) (j := 1) hc dX7_about_14 rfl rfl rfl ?_
    refine w_iconst (q := 16) hc dX7_about_15 ci_1 rfl ?_
    refine w_callV_Wi (q := 19) (st := []) (args := [.int 1]) (p := 0) hc (m_X7_refuse hK hR) dX7_about_16 ml_X7_56 cf_X7_refuse iv_X7_refuse (k_0 hK) (C := RX7) (T := TX7) (N := 7) rfl rfl (Nat.lt_of_succ_le (Nat.le_of_ble_eq_true rfl)) rfl rfl (Nat.le_of_ble_eq_true rfl) ⟨Nat.le_of_ble_eq_true rfl, Nat.le_of_ble_eq_true rfl⟩ rfl (fun q_15 => ?_)
    exact w_ireturn (v := q_15.1) hc hq dX7_about_19 rfl rfl rfl
set_option maxRecDepth 100000 in
set_option maxHeartbeats 4000000 in
theorem m_X7_orbit {l : Launch} {K : KT} {R : MR} {rm : Nat} {a1 : Int32} {I : MI} {L : ML} (hK0 : K = lK rm) (hR0 : R = lR rm) : MFg l yX7_orbit cX7_orbit 2 (some .int) 3 72 [.ref 0, .int a1] K R I L anIW meW (f_X7_orbit a1 I L) := by
  refine mf_of (plainFor_of_name (by decide)) (Nat.le_of_ble_eq_true rfl) ?_
  intro G hc _ hK1 hR1 hn hq
  have hK := hK1.trans hK0
  have hR := hR1.trans hR0
  have hN : ∀ i, Nat.blt i 2 = true → i < gnL G := fun i h => hn ▸ Nat.blt_eq.mp h
  unfold f_X7_orbit
  show WW G 0 [(0, .ref 0), (1, .int a1)] [] I L _
  refine w_aload_n (q := 1) (i := 0) (j := 0) hc dX7_orbit_0 rfl rfl rfl ?_
  refine gf_X7_19 (q := 4) hc dX7_orbit_1 (k_0 hK) (r_0_1 hR) rfl ?_
  refine w_iload_n (q := 5) (i := 1) (j := 1) hc dX7_orbit_4 rfl rfl rfl ?_
  refine w_callV_Rz (q := 8) (st := []) (args := [.int a1]) (p := 6) hc (m_X2_hasPoint hK hR) dX7_orbit_5 ml_X7_117 cf_X2_hasPoint iv_X2_hasPoint (k_6 hK) (C := RX2) (T := TX2) (N := 13) rfl rfl (Nat.lt_of_succ_le (Nat.le_of_ble_eq_true rfl)) rfl rfl (Nat.le_of_ble_eq_true rfl) ⟨Nat.le_of_ble_eq_true rfl, Nat.le_of_ble_eq_true rfl⟩ rfl (fun q_1 => ?_)
  refine w_ifne (q := 11) (tgt := 17) hc dX7_orbit_8 rfl rfl ?_ ?_
  · refine w_aload_n (q := 12) (i := 0) (j := 0) hc dX7_orbit_11 rfl rfl rfl ?_
    refine w_iconst (q := 13) hc dX7_orbit_12 ci_2 rfl ?_
    refine w_callV_Wi (q := 16) (st := []) (args := [.int 2]) (p := 0) hc (m_X7_refuse hK hR) dX7_orbit_13 ml_X7_56 cf_X7_refuse iv_X7_refuse (k_0 hK) (C := RX7) (T := TX7) (N := 7) rfl rfl (Nat.lt_of_succ_le (Nat.le_of_ble_eq_true rfl)) rfl rfl (Nat.le_of_ble_eq_true rfl) ⟨Nat.le_of_ble_eq_true rfl, Nat.le_of_ble_eq_true rfl⟩ rfl (fun q_4 => ?_)
    exact w_ireturn (v := q_4.1) hc hq dX7_orbit_16 rfl rfl rfl
  · refine w_aload_n (q := 18) (i := 0) (j := 0) hc dX7_orbit_17 rfl rfl rfl ?_
    refine w_aload_n (q := 19) (i := 0) (j := 0) hc dX7_orbit_18 rfl rfl rfl ?_
    refine gf_X7_19 (q := 22) hc dX7_orbit_19 (k_0 hK) (r_0_1 hR) rfl ?_
    refine w_iload_n (q := 23) (i := 1) (j := 1) hc dX7_orbit_22 rfl rfl rfl ?_
    refine w_callV_Ri (q := 26) (st := [.ref 0]) (args := [.int a1]) (p := 6) hc (m_X2_reachedFrom hK hR) dX7_orbit_23 ml_X7_156 cf_X2_reachedFrom iv_X2_reachedFrom (k_6 hK) (C := RX2) (T := TX2) (N := 13) rfl rfl (Nat.lt_of_succ_le (Nat.le_of_ble_eq_true rfl)) rfl rfl (Nat.le_of_ble_eq_true rfl) ⟨Nat.le_of_ble_eq_true rfl, Nat.le_of_ble_eq_true rfl⟩ rfl (fun q_2 => ?_)
    refine w_callV_Wi (q := 29) (st := []) (args := [.int q_2]) (p := 0) hc (m_X7_tell hK hR) dX7_orbit_26 ml_X7_86 cf_X7_tell iv_X7_tell (k_0 hK) (C := RX7) (T := TX7) (N := 7) rfl rfl (Nat.lt_of_succ_le (Nat.le_of_ble_eq_true rfl)) rfl rfl (Nat.le_of_ble_eq_true rfl) ⟨Nat.le_of_ble_eq_true rfl, Nat.le_of_ble_eq_true rfl⟩ rfl (fun q_3 => ?_)
    exact w_ireturn (v := q_3.1) hc hq dX7_orbit_29 rfl rfl rfl
set_option maxRecDepth 100000 in
set_option maxHeartbeats 4000000 in
theorem m_X7_orbits {l : Launch} {K : KT} {R : MR} {rm : Nat} {I : MI} {L : ML} (hK0 : K = lK rm) (hR0 : R = lR rm) : MFg l yX7_orbits cX7_orbits 1 (some .int) 4 95 [.ref 0] K R I L anIW meW (f_X7_orbits I L) := by
  refine mf_of (plainFor_of_name (by decide)) (Nat.le_of_ble_eq_true rfl) ?_
  intro G hc _ hK1 hR1 hn hq
  have hK := hK1.trans hK0
  have hR := hR1.trans hR0
  have hN : ∀ i, Nat.blt i 1 = true → i < gnL G := fun i h => hn ▸ Nat.blt_eq.mp h
  unfold f_X7_orbits
  show WW G 0 [(0, .ref 0)] [] I L _
  refine w_aload_n (q := 1) (i := 0) (j := 0) hc dX7_orbits_0 rfl rfl rfl ?_
  refine gf_X7_19 (q := 4) hc dX7_orbits_1 (k_0 hK) (r_0_1 hR) rfl ?_
  refine gf_X7_95 (q := 7) hc dX7_orbits_4 (k_6 hK) rfl ?_
  refine w_ifne (q := 10) (tgt := 16) hc dX7_orbits_7 rfl rfl ?_ ?_
  · refine w_aload_n (q := 11) (i := 0) (j := 0) hc dX7_orbits_10 rfl rfl rfl ?_
    refine w_iconst (q := 12) hc dX7_orbits_11 ci_5 rfl ?_
    refine w_callV_Wi (q := 15) (st := []) (args := [.int 5]) (p := 0) hc (m_X7_refuse hK hR) dX7_orbits_12 ml_X7_56 cf_X7_refuse iv_X7_refuse (k_0 hK) (C := RX7) (T := TX7) (N := 7) rfl rfl (Nat.lt_of_succ_le (Nat.le_of_ble_eq_true rfl)) rfl rfl (Nat.le_of_ble_eq_true rfl) ⟨Nat.le_of_ble_eq_true rfl, Nat.le_of_ble_eq_true rfl⟩ rfl (fun q_3 => ?_)
    exact w_ireturn (v := q_3.1) hc hq dX7_orbits_15 rfl rfl rfl
  · refine w_aload_n (q := 17) (i := 0) (j := 0) hc dX7_orbits_16 rfl rfl rfl ?_
    refine w_aload_n (q := 18) (i := 0) (j := 0) hc dX7_orbits_17 rfl rfl rfl ?_
    refine gf_X7_19 (q := 21) hc dX7_orbits_18 (k_0 hK) (r_0_1 hR) rfl ?_
    refine w_callV_Ri (q := 24) (st := [.ref 0]) (args := []) (p := 6) hc (m_X2_countOrbits hK hR) dX7_orbits_21 ml_X7_159 cf_X2_countOrbits iv_X2_countOrbits (k_6 hK) (C := RX2) (T := TX2) (N := 13) rfl rfl (Nat.lt_of_succ_le (Nat.le_of_ble_eq_true rfl)) rfl rfl (Nat.le_of_ble_eq_true rfl) ⟨Nat.le_of_ble_eq_true rfl, Nat.le_of_ble_eq_true rfl⟩ rfl (fun q_1 => ?_)
    refine w_callV_Wi (q := 27) (st := []) (args := [.int q_1]) (p := 0) hc (m_X7_tell hK hR) dX7_orbits_24 ml_X7_86 cf_X7_tell iv_X7_tell (k_0 hK) (C := RX7) (T := TX7) (N := 7) rfl rfl (Nat.lt_of_succ_le (Nat.le_of_ble_eq_true rfl)) rfl rfl (Nat.le_of_ble_eq_true rfl) ⟨Nat.le_of_ble_eq_true rfl, Nat.le_of_ble_eq_true rfl⟩ rfl (fun q_2 => ?_)
    exact w_ireturn (v := q_2.1) hc hq dX7_orbits_27 rfl rfl rfl
set_option maxRecDepth 100000 in
set_option maxHeartbeats 4000000 in
theorem m_X7_base {l : Launch} {K : KT} {R : MR} {rm : Nat} {a1 : Int32} {I : MI} {L : ML} (hK0 : K = lK rm) (hR0 : R = lR rm) : MFg l yX7_base cX7_base 3 (some .int) 2 43 [.ref 0, .int a1] K R I L anIW meW (f_X7_base a1 I L) := by
  refine mf_of (plainFor_of_name (by decide)) (Nat.le_of_ble_eq_true rfl) ?_
  intro G hc _ hK1 hR1 hn hq
  have hK := hK1.trans hK0
  have hR := hR1.trans hR0
  have hN : ∀ i, Nat.blt i 3 = true → i < gnL G := fun i h => hn ▸ Nat.blt_eq.mp h
  unfold f_X7_base
  show WW G 0 [(0, .ref 0), (1, .int a1)] [] I L _
  refine w_iload_n (q := 1) (i := 1) (j := 1) hc dX7_base_0 rfl rfl rfl ?_
  refine w_iconst (q := 2) hc dX7_base_1 ci_m1 rfl ?_
  refine w_icmpge (q := 5) (tgt := 11) hc dX7_base_2 rfl rfl ?_ ?_
  · refine w_aload_n (q := 12) (i := 0) (j := 0) hc dX7_base_11 rfl rfl rfl ?_
    refine gf_X7_19 (q := 15) hc dX7_base_12 (k_0 hK) (r_0_1 hR) rfl ?_
    refine gf_X7_95 (q := 18) hc dX7_base_15 (k_6 hK) rfl ?_
    refine w_ifne (q := 21) (tgt := 27) hc dX7_base_18 rfl rfl ?_ ?_
    · refine w_aload_n (q := 22) (i := 0) (j := 0) hc dX7_base_21 rfl rfl rfl ?_
      refine w_iconst (q := 23) hc dX7_base_22 ci_5 rfl ?_
      refine w_callV_Wi (q := 26) (st := []) (args := [.int 5]) (p := 0) hc (m_X7_refuse hK hR) dX7_base_23 ml_X7_56 cf_X7_refuse iv_X7_refuse (k_0 hK) (C := RX7) (T := TX7) (N := 7) rfl rfl (Nat.lt_of_succ_le (Nat.le_of_ble_eq_true rfl)) rfl rfl (Nat.le_of_ble_eq_true rfl) ⟨Nat.le_of_ble_eq_true rfl, Nat.le_of_ble_eq_true rfl⟩ rfl (fun q_6 => ?_)
      exact w_ireturn (v := q_6.1) hc hq dX7_base_26 rfl rfl rfl
    · refine w_iload_n (q := 28) (i := 1) (j := 1) hc dX7_base_27 rfl rfl rfl ?_
      refine w_iconst (q := 29) hc dX7_base_28 ci_m1 rfl ?_
      refine w_icmpne (q := 32) (tgt := 47) hc dX7_base_29 rfl rfl ?_ ?_
      · refine w_aload_n (q := 33) (i := 0) (j := 0) hc dX7_base_32 rfl rfl rfl ?_
        refine w_aload_n (q := 34) (i := 0) (j := 0) hc dX7_base_33 rfl rfl rfl ?_
        refine gf_X7_19 (q := 37) hc dX7_base_34 (k_0 hK) (r_0_1 hR) rfl ?_
        refine gf_X7_163 (q := 40) hc dX7_base_37 (k_6 hK) (r_6_3 hR) rfl ?_
        refine w_callV_Ri (q := 43) (st := [.ref 0]) (args := []) (p := 8) hc (m_X0_countHeld hK hR (ch_8)) dX7_base_40 ml_X7_167 cf_X0_countHeld iv_X0_countHeld (k_8 hK) (C := RX0) (T := TX0) (N := 8) rfl rfl (Nat.lt_of_succ_le (Nat.le_of_ble_eq_true rfl)) rfl rfl (Nat.le_of_ble_eq_true rfl) ⟨Nat.le_of_ble_eq_true rfl, Nat.le_of_ble_eq_true rfl⟩ rfl (fun q_4 => ?_)
        refine w_callV_Wi (q := 46) (st := []) (args := [.int q_4]) (p := 0) hc (m_X7_tell hK hR) dX7_base_43 ml_X7_86 cf_X7_tell iv_X7_tell (k_0 hK) (C := RX7) (T := TX7) (N := 7) rfl rfl (Nat.lt_of_succ_le (Nat.le_of_ble_eq_true rfl)) rfl rfl (Nat.le_of_ble_eq_true rfl) ⟨Nat.le_of_ble_eq_true rfl, Nat.le_of_ble_eq_true rfl⟩ rfl (fun q_5 => ?_)
        exact w_ireturn (v := q_5.1) hc hq dX7_base_46 rfl rfl rfl
      · refine w_aload_n (q := 48) (i := 0) (j := 0) hc dX7_base_47 rfl rfl rfl ?_
        refine gf_X7_19 (q := 51) hc dX7_base_48 (k_0 hK) (r_0_1 hR) rfl ?_
        refine gf_X7_163 (q := 54) hc dX7_base_51 (k_6 hK) (r_6_3 hR) rfl ?_
        refine w_iload_n (q := 55) (i := 1) (j := 1) hc dX7_base_54 rfl rfl rfl ?_
        refine w_callV_Ri (q := 58) (st := []) (args := [.int a1]) (p := 8) hc (m_X0_heldPoint hK hR (ch_8)) dX7_base_55 ml_X7_172 cf_X0_heldPoint iv_X0_heldPoint (k_8 hK) (C := RX0) (T := TX0) (N := 8) rfl rfl (Nat.lt_of_succ_le (Nat.le_of_ble_eq_true rfl)) rfl rfl (Nat.le_of_ble_eq_true rfl) ⟨Nat.le_of_ble_eq_true rfl, Nat.le_of_ble_eq_true rfl⟩ rfl (fun q_1 => ?_)
        refine w_istore_n (q := 59) (i := 2) (lv' := [(2, .int q_1), (0, .ref 0), (1, .int a1)]) hc dX7_base_58 rfl (hN 2 rfl) rfl rfl ?_
        refine w_iload_n (q := 60) (i := 2) (j := 0) hc dX7_base_59 rfl rfl rfl ?_
        refine w_ifge (q := 63) (tgt := 71) hc dX7_base_60 rfl rfl ?_ ?_
        · refine w_aload_n (q := 72) (i := 0) (j := 1) hc dX7_base_71 rfl rfl rfl ?_
          refine w_iload_n (q := 73) (i := 2) (j := 0) hc dX7_base_72 rfl rfl rfl ?_
          refine w_callV_Wi (q := 76) (st := []) (args := [.int q_1]) (p := 0) hc (m_X7_tell hK hR) dX7_base_73 ml_X7_86 cf_X7_tell iv_X7_tell (k_0 hK) (C := RX7) (T := TX7) (N := 7) rfl rfl (Nat.lt_of_succ_le (Nat.le_of_ble_eq_true rfl)) rfl rfl (Nat.le_of_ble_eq_true rfl) ⟨Nat.le_of_ble_eq_true rfl, Nat.le_of_ble_eq_true rfl⟩ rfl (fun q_2 => ?_)
          exact w_ireturn (v := q_2.1) hc hq dX7_base_76 rfl rfl rfl
        · refine w_aload_n (q := 64) (i := 0) (j := 1) hc dX7_base_63 rfl rfl rfl ?_
          refine w_iconst (q := 65) hc dX7_base_64 ci_5 rfl ?_
          refine w_callV_Wi (q := 68) (st := []) (args := [.int 5]) (p := 0) hc (m_X7_refuse hK hR) dX7_base_65 ml_X7_56 cf_X7_refuse iv_X7_refuse (k_0 hK) (C := RX7) (T := TX7) (N := 7) rfl rfl (Nat.lt_of_succ_le (Nat.le_of_ble_eq_true rfl)) rfl rfl (Nat.le_of_ble_eq_true rfl) ⟨Nat.le_of_ble_eq_true rfl, Nat.le_of_ble_eq_true rfl⟩ rfl (fun q_3 => ?_)
          refine w_goto (tgt := 76) hc dX7_base_68 rfl ?_
          exact w_ireturn (v := q_3.1) hc hq dX7_base_76 rfl rfl rfl
  · refine w_aload_n (q := 6) (i := 0) (j := 0) hc dX7_base_5 rfl rfl rfl ?_
    refine w_iconst (q := 7) hc dX7_base_6 ci_1 rfl ?_
    refine w_callV_Wi (q := 10) (st := []) (args := [.int 1]) (p := 0) hc (m_X7_refuse hK hR) dX7_base_7 ml_X7_56 cf_X7_refuse iv_X7_refuse (k_0 hK) (C := RX7) (T := TX7) (N := 7) rfl rfl (Nat.lt_of_succ_le (Nat.le_of_ble_eq_true rfl)) rfl rfl (Nat.le_of_ble_eq_true rfl) ⟨Nat.le_of_ble_eq_true rfl, Nat.le_of_ble_eq_true rfl⟩ rfl (fun q_7 => ?_)
    exact w_ireturn (v := q_7.1) hc hq dX7_base_10 rfl rfl rfl
set_option maxRecDepth 100000 in
set_option maxHeartbeats 4000000 in
theorem m_X7_level {l : Launch} {K : KT} {R : MR} {rm : Nat} {a1 : Int32} {I : MI} {L : ML} (hK0 : K = lK rm) (hR0 : R = lR rm) : MFg l yX7_level cX7_level 3 (some .int) 2 43 [.ref 0, .int a1] K R I L anIW meW (f_X7_level a1 I L) := by
  refine mf_of (plainFor_of_name (by decide)) (Nat.le_of_ble_eq_true rfl) ?_
  intro G hc _ hK1 hR1 hn hq
  have hK := hK1.trans hK0
  have hR := hR1.trans hR0
  have hN : ∀ i, Nat.blt i 3 = true → i < gnL G := fun i h => hn ▸ Nat.blt_eq.mp h
  unfold f_X7_level
  show WW G 0 [(0, .ref 0), (1, .int a1)] [] I L _
  refine w_iload_n (q := 1) (i := 1) (j := 1) hc dX7_level_0 rfl rfl rfl ?_
  refine w_ifge (q := 4) (tgt := 10) hc dX7_level_1 rfl rfl ?_ ?_
  · refine w_aload_n (q := 11) (i := 0) (j := 0) hc dX7_level_10 rfl rfl rfl ?_
    refine gf_X7_19 (q := 14) hc dX7_level_11 (k_0 hK) (r_0_1 hR) rfl ?_
    refine gf_X7_95 (q := 17) hc dX7_level_14 (k_6 hK) rfl ?_
    refine w_ifne (q := 20) (tgt := 26) hc dX7_level_17 rfl rfl ?_ ?_
    · refine w_aload_n (q := 21) (i := 0) (j := 0) hc dX7_level_20 rfl rfl rfl ?_
      refine w_iconst (q := 22) hc dX7_level_21 ci_5 rfl ?_
      refine w_callV_Wi (q := 25) (st := []) (args := [.int 5]) (p := 0) hc (m_X7_refuse hK hR) dX7_level_22 ml_X7_56 cf_X7_refuse iv_X7_refuse (k_0 hK) (C := RX7) (T := TX7) (N := 7) rfl rfl (Nat.lt_of_succ_le (Nat.le_of_ble_eq_true rfl)) rfl rfl (Nat.le_of_ble_eq_true rfl) ⟨Nat.le_of_ble_eq_true rfl, Nat.le_of_ble_eq_true rfl⟩ rfl (fun q_5 => ?_)
      exact w_ireturn (v := q_5.1) hc hq dX7_level_25 rfl rfl rfl
    · refine w_aload_n (q := 27) (i := 0) (j := 0) hc dX7_level_26 rfl rfl rfl ?_
      refine gf_X7_19 (q := 30) hc dX7_level_27 (k_0 hK) (r_0_1 hR) rfl ?_
      refine gf_X7_163 (q := 33) hc dX7_level_30 (k_6 hK) (r_6_3 hR) rfl ?_
      refine w_iload_n (q := 34) (i := 1) (j := 1) hc dX7_level_33 rfl rfl rfl ?_
      refine w_callV_Ri (q := 37) (st := []) (args := [.int a1]) (p := 8) hc (m_X0_heldPoint hK hR (ch_8)) dX7_level_34 ml_X7_172 cf_X0_heldPoint iv_X0_heldPoint (k_8 hK) (C := RX0) (T := TX0) (N := 8) rfl rfl (Nat.lt_of_succ_le (Nat.le_of_ble_eq_true rfl)) rfl rfl (Nat.le_of_ble_eq_true rfl) ⟨Nat.le_of_ble_eq_true rfl, Nat.le_of_ble_eq_true rfl⟩ rfl (fun q_1 => ?_)
      refine w_istore_n (q := 38) (i := 2) (lv' := [(2, .int q_1), (0, .ref 0), (1, .int a1)]) hc dX7_level_37 rfl (hN 2 rfl) rfl rfl ?_
      refine w_iload_n (q := 39) (i := 2) (j := 0) hc dX7_level_38 rfl rfl rfl ?_
      refine w_ifge (q := 42) (tgt := 50) hc dX7_level_39 rfl rfl ?_ ?_
      · refine w_aload_n (q := 51) (i := 0) (j := 1) hc dX7_level_50 rfl rfl rfl ?_
        refine w_aload_n (q := 52) (i := 0) (j := 1) hc dX7_level_51 rfl rfl rfl ?_
        refine gf_X7_19 (q := 55) hc dX7_level_52 (k_0 hK) (r_0_1 hR) rfl ?_
        refine gf_X7_163 (q := 58) hc dX7_level_55 (k_6 hK) (r_6_3 hR) rfl ?_
        refine w_iload_n (q := 59) (i := 2) (j := 0) hc dX7_level_58 rfl rfl rfl ?_
        refine w_callV_Ri (q := 62) (st := [.ref 0]) (args := [.int q_1]) (p := 8) hc (m_X0_reachedAt hK hR (ch_8)) dX7_level_59 ml_X7_175 cf_X0_reachedAt iv_X0_reachedAt (k_8 hK) (C := RX0) (T := TX0) (N := 8) rfl rfl (Nat.lt_of_succ_le (Nat.le_of_ble_eq_true rfl)) rfl rfl (Nat.le_of_ble_eq_true rfl) ⟨Nat.le_of_ble_eq_true rfl, Nat.le_of_ble_eq_true rfl⟩ rfl (fun q_2 => ?_)
        refine w_callV_Wi (q := 65) (st := []) (args := [.int q_2]) (p := 0) hc (m_X7_tell hK hR) dX7_level_62 ml_X7_86 cf_X7_tell iv_X7_tell (k_0 hK) (C := RX7) (T := TX7) (N := 7) rfl rfl (Nat.lt_of_succ_le (Nat.le_of_ble_eq_true rfl)) rfl rfl (Nat.le_of_ble_eq_true rfl) ⟨Nat.le_of_ble_eq_true rfl, Nat.le_of_ble_eq_true rfl⟩ rfl (fun q_3 => ?_)
        exact w_ireturn (v := q_3.1) hc hq dX7_level_65 rfl rfl rfl
      · refine w_aload_n (q := 43) (i := 0) (j := 1) hc dX7_level_42 rfl rfl rfl ?_
        refine w_iconst (q := 44) hc dX7_level_43 ci_5 rfl ?_
        refine w_callV_Wi (q := 47) (st := []) (args := [.int 5]) (p := 0) hc (m_X7_refuse hK hR) dX7_level_44 ml_X7_56 cf_X7_refuse iv_X7_refuse (k_0 hK) (C := RX7) (T := TX7) (N := 7) rfl rfl (Nat.lt_of_succ_le (Nat.le_of_ble_eq_true rfl)) rfl rfl (Nat.le_of_ble_eq_true rfl) ⟨Nat.le_of_ble_eq_true rfl, Nat.le_of_ble_eq_true rfl⟩ rfl (fun q_4 => ?_)
        refine w_goto (tgt := 65) hc dX7_level_47 rfl ?_
        exact w_ireturn (v := q_4.1) hc hq dX7_level_65 rfl rfl rfl
  · refine w_aload_n (q := 5) (i := 0) (j := 0) hc dX7_level_4 rfl rfl rfl ?_
    refine w_iconst (q := 6) hc dX7_level_5 ci_1 rfl ?_
    refine w_callV_Wi (q := 9) (st := []) (args := [.int 1]) (p := 0) hc (m_X7_refuse hK hR) dX7_level_6 ml_X7_56 cf_X7_refuse iv_X7_refuse (k_0 hK) (C := RX7) (T := TX7) (N := 7) rfl rfl (Nat.lt_of_succ_le (Nat.le_of_ble_eq_true rfl)) rfl rfl (Nat.le_of_ble_eq_true rfl) ⟨Nat.le_of_ble_eq_true rfl, Nat.le_of_ble_eq_true rfl⟩ rfl (fun q_6 => ?_)
    exact w_ireturn (v := q_6.1) hc hq dX7_level_9 rfl rfl rfl
set_option maxRecDepth 100000 in
set_option maxHeartbeats 4000000 in
theorem m_X7_order {l : Launch} {K : KT} {R : MR} {rm : Nat} {I : MI} {L : ML} (hK0 : K = lK rm) (hR0 : R = lR rm) : MFg l yX7_order cX7_order 1 (some .int) 4 83 [.ref 0] K R I L anIW meW (f_X7_order I L) := by
  refine mf_of (plainFor_of_name (by decide)) (Nat.le_of_ble_eq_true rfl) ?_
  intro G hc _ hK1 hR1 hn hq
  have hK := hK1.trans hK0
  have hR := hR1.trans hR0
  have hN : ∀ i, Nat.blt i 1 = true → i < gnL G := fun i h => hn ▸ Nat.blt_eq.mp h
  unfold f_X7_order
  show WW G 0 [(0, .ref 0)] [] I L _
  refine w_aload_n (q := 1) (i := 0) (j := 0) hc dX7_order_0 rfl rfl rfl ?_
  refine gf_X7_19 (q := 4) hc dX7_order_1 (k_0 hK) (r_0_1 hR) rfl ?_
  refine gf_X7_95 (q := 7) hc dX7_order_4 (k_6 hK) rfl ?_
  refine w_ifne (q := 10) (tgt := 16) hc dX7_order_7 rfl rfl ?_ ?_
  · refine w_aload_n (q := 11) (i := 0) (j := 0) hc dX7_order_10 rfl rfl rfl ?_
    refine w_iconst (q := 12) hc dX7_order_11 ci_5 rfl ?_
    refine w_callV_Wi (q := 15) (st := []) (args := [.int 5]) (p := 0) hc (m_X7_refuse hK hR) dX7_order_12 ml_X7_56 cf_X7_refuse iv_X7_refuse (k_0 hK) (C := RX7) (T := TX7) (N := 7) rfl rfl (Nat.lt_of_succ_le (Nat.le_of_ble_eq_true rfl)) rfl rfl (Nat.le_of_ble_eq_true rfl) ⟨Nat.le_of_ble_eq_true rfl, Nat.le_of_ble_eq_true rfl⟩ rfl (fun q_3 => ?_)
    exact w_ireturn (v := q_3.1) hc hq dX7_order_15 rfl rfl rfl
  · refine w_aload_n (q := 17) (i := 0) (j := 0) hc dX7_order_16 rfl rfl rfl ?_
    refine w_aload_n (q := 18) (i := 0) (j := 0) hc dX7_order_17 rfl rfl rfl ?_
    refine gf_X7_19 (q := 21) hc dX7_order_18 (k_0 hK) (r_0_1 hR) rfl ?_
    refine w_callV_Ri (q := 24) (st := [.ref 0]) (args := []) (p := 6) hc (m_X2_size hK hR) dX7_order_21 ml_X7_178 cf_X2_size iv_X2_size (k_6 hK) (C := RX2) (T := TX2) (N := 13) rfl rfl (Nat.lt_of_succ_le (Nat.le_of_ble_eq_true rfl)) rfl rfl (Nat.le_of_ble_eq_true rfl) ⟨Nat.le_of_ble_eq_true rfl, Nat.le_of_ble_eq_true rfl⟩ rfl (fun q_1 => ?_)
    refine w_callV_Wi (q := 27) (st := []) (args := [.int q_1]) (p := 0) hc (m_X7_tell hK hR) dX7_order_24 ml_X7_86 cf_X7_tell iv_X7_tell (k_0 hK) (C := RX7) (T := TX7) (N := 7) rfl rfl (Nat.lt_of_succ_le (Nat.le_of_ble_eq_true rfl)) rfl rfl (Nat.le_of_ble_eq_true rfl) ⟨Nat.le_of_ble_eq_true rfl, Nat.le_of_ble_eq_true rfl⟩ rfl (fun q_2 => ?_)
    exact w_ireturn (v := q_2.1) hc hq dX7_order_27 rfl rfl rfl
set_option maxRecDepth 100000 in
set_option maxHeartbeats 4000000 in
theorem m_X7_member {l : Launch} {K : KT} {R : MR} {rm : Nat} {a1 : Int64} {I : MI} {L : ML} (hK0 : K = lK rm) (hR0 : R = lR rm) : MFg l yX7_member cX7_member 5 (some .int) 3 78 [.ref 0, .long a1] K R I L anIW meW (f_X7_member a1 I L) := by
  refine mf_of (plainFor_of_name (by decide)) (Nat.le_of_ble_eq_true rfl) ?_
  intro G hc _ hK1 hR1 hn hq
  have hK := hK1.trans hK0
  have hR := hR1.trans hR0
  have hN : ∀ i, Nat.blt i 5 = true → i < gnL G := fun i h => hn ▸ Nat.blt_eq.mp h
  unfold f_X7_member
  show WW G 0 [(0, .ref 0), (1, .long a1)] [] I L _
  refine w_aload_n (q := 1) (i := 0) (j := 0) hc dX7_member_0 rfl rfl rfl ?_
  refine w_lload_n (q := 2) (i := 1) (j := 1) hc dX7_member_1 rfl rfl rfl ?_
  refine w_callV_Rl (q := 5) (st := []) (args := [.long a1]) (p := 0) hc (m_X7_read hK hR) dX7_member_2 ml_X7_114 cf_X7_read iv_X7_read (k_0 hK) (C := RX7) (T := TX7) (N := 7) rfl rfl (Nat.lt_of_succ_le (Nat.le_of_ble_eq_true rfl)) rfl rfl (Nat.le_of_ble_eq_true rfl) ⟨Nat.le_of_ble_eq_true rfl, Nat.le_of_ble_eq_true rfl⟩ rfl (fun q_1 => ?_)
  refine w_lstore_n (q := 6) (i := 3) (lv' := [(3, .long q_1), (0, .ref 0), (1, .long a1)]) hc dX7_member_5 rfl (hN 4 rfl) rfl rfl ?_
  refine w_lload_n (q := 7) (i := 3) (j := 0) hc dX7_member_6 rfl rfl rfl ?_
  refine w_lconst (q := 8) hc dX7_member_7 cl_0 rfl ?_
  refine w_lcmp (q := 9) hc dX7_member_8  rfl ?_
  refine w_ifge (q := 12) (tgt := 18) hc dX7_member_9 rfl rfl ?_ ?_
  · refine w_aload_n (q := 19) (i := 0) (j := 1) hc dX7_member_18 rfl rfl rfl ?_
    refine w_aload_n (q := 20) (i := 0) (j := 1) hc dX7_member_19 rfl rfl rfl ?_
    refine gf_X7_19 (q := 23) hc dX7_member_20 (k_0 hK) (r_0_1 hR) rfl ?_
    refine gf_X7_163 (q := 26) hc dX7_member_23 (k_6 hK) (r_6_3 hR) rfl ?_
    refine w_lload_n (q := 27) (i := 3) (j := 0) hc dX7_member_26 rfl rfl rfl ?_
    refine w_callV_Rz (q := 30) (st := [.ref 0]) (args := [.long q_1]) (p := 8) hc (m_X0_contains hK hR (ch_8)) dX7_member_27 ml_X7_181 cf_X0_contains iv_X0_contains (k_8 hK) (C := RX0) (T := TX0) (N := 8) rfl rfl (Nat.lt_of_succ_le (Nat.le_of_ble_eq_true rfl)) rfl rfl (Nat.le_of_ble_eq_true rfl) ⟨Nat.le_of_ble_eq_true rfl, Nat.le_of_ble_eq_true rfl⟩ rfl (fun q_2 => ?_)
    refine w_ifeq (q := 33) (tgt := 37) hc dX7_member_30 rfl rfl ?_ ?_
    · refine w_iconst (q := 38) hc dX7_member_37 ci_0 rfl ?_
      refine w_callV_Wi (q := 41) (st := []) (args := [.int 0]) (p := 0) hc (m_X7_tell hK hR) dX7_member_38 ml_X7_86 cf_X7_tell iv_X7_tell (k_0 hK) (C := RX7) (T := TX7) (N := 7) rfl rfl (Nat.lt_of_succ_le (Nat.le_of_ble_eq_true rfl)) rfl rfl (Nat.le_of_ble_eq_true rfl) ⟨Nat.le_of_ble_eq_true rfl, Nat.le_of_ble_eq_true rfl⟩ rfl (fun q_3 => ?_)
      exact w_ireturn (v := q_3.1) hc hq dX7_member_41 rfl rfl rfl
    · refine w_iconst (q := 34) hc dX7_member_33 ci_1 rfl ?_
      refine w_goto (tgt := 38) hc dX7_member_34 rfl ?_
      refine w_callV_Wi (q := 41) (st := []) (args := [.int 1]) (p := 0) hc (m_X7_tell hK hR) dX7_member_38 ml_X7_86 cf_X7_tell iv_X7_tell (k_0 hK) (C := RX7) (T := TX7) (N := 7) rfl rfl (Nat.lt_of_succ_le (Nat.le_of_ble_eq_true rfl)) rfl rfl (Nat.le_of_ble_eq_true rfl) ⟨Nat.le_of_ble_eq_true rfl, Nat.le_of_ble_eq_true rfl⟩ rfl (fun q_4 => ?_)
      exact w_ireturn (v := q_4.1) hc hq dX7_member_41 rfl rfl rfl
  · refine w_aload_n (q := 13) (i := 0) (j := 1) hc dX7_member_12 rfl rfl rfl ?_
    refine w_iconst (q := 14) hc dX7_member_13 ci_1 rfl ?_
    refine w_callV_Wi (q := 17) (st := []) (args := [.int 1]) (p := 0) hc (m_X7_refuse hK hR) dX7_member_14 ml_X7_56 cf_X7_refuse iv_X7_refuse (k_0 hK) (C := RX7) (T := TX7) (N := 7) rfl rfl (Nat.lt_of_succ_le (Nat.le_of_ble_eq_true rfl)) rfl rfl (Nat.le_of_ble_eq_true rfl) ⟨Nat.le_of_ble_eq_true rfl, Nat.le_of_ble_eq_true rfl⟩ rfl (fun q_5 => ?_)
    exact w_ireturn (v := q_5.1) hc hq dX7_member_17 rfl rfl rfl
set_option maxRecDepth 100000 in
set_option maxHeartbeats 4000000 in
theorem m_X7_followed {l : Launch} {K : KT} {R : MR} {rm : Nat} {a1 : Int64} {I : MI} {L : ML} (hK0 : K = lK rm) (hR0 : R = lR rm) : MFg l yX7_followed cX7_followed 5 (some .int) 3 78 [.ref 0, .long a1] K R I L anIW meW (f_X7_followed a1 I L) := by
  refine mf_of (plainFor_of_name (by decide)) (Nat.le_of_ble_eq_true rfl) ?_
  intro G hc _ hK1 hR1 hn hq
  have hK := hK1.trans hK0
  have hR := hR1.trans hR0
  have hN : ∀ i, Nat.blt i 5 = true → i < gnL G := fun i h => hn ▸ Nat.blt_eq.mp h
  unfold f_X7_followed
  show WW G 0 [(0, .ref 0), (1, .long a1)] [] I L _
  refine w_aload_n (q := 1) (i := 0) (j := 0) hc dX7_followed_0 rfl rfl rfl ?_
  refine w_lload_n (q := 2) (i := 1) (j := 1) hc dX7_followed_1 rfl rfl rfl ?_
  refine w_callV_Rl (q := 5) (st := []) (args := [.long a1]) (p := 0) hc (m_X7_read hK hR) dX7_followed_2 ml_X7_114 cf_X7_read iv_X7_read (k_0 hK) (C := RX7) (T := TX7) (N := 7) rfl rfl (Nat.lt_of_succ_le (Nat.le_of_ble_eq_true rfl)) rfl rfl (Nat.le_of_ble_eq_true rfl) ⟨Nat.le_of_ble_eq_true rfl, Nat.le_of_ble_eq_true rfl⟩ rfl (fun q_1 => ?_)
  refine w_lstore_n (q := 6) (i := 3) (lv' := [(3, .long q_1), (0, .ref 0), (1, .long a1)]) hc dX7_followed_5 rfl (hN 4 rfl) rfl rfl ?_
  refine w_lload_n (q := 7) (i := 3) (j := 0) hc dX7_followed_6 rfl rfl rfl ?_
  refine w_lconst (q := 8) hc dX7_followed_7 cl_0 rfl ?_
  refine w_lcmp (q := 9) hc dX7_followed_8  rfl ?_
  refine w_ifge (q := 12) (tgt := 18) hc dX7_followed_9 rfl rfl ?_ ?_
  · refine w_aload_n (q := 19) (i := 0) (j := 1) hc dX7_followed_18 rfl rfl rfl ?_
    refine w_aload_n (q := 20) (i := 0) (j := 1) hc dX7_followed_19 rfl rfl rfl ?_
    refine gf_X7_19 (q := 23) hc dX7_followed_20 (k_0 hK) (r_0_1 hR) rfl ?_
    refine gf_X7_163 (q := 26) hc dX7_followed_23 (k_6 hK) (r_6_3 hR) rfl ?_
    refine w_lload_n (q := 27) (i := 3) (j := 0) hc dX7_followed_26 rfl rfl rfl ?_
    refine w_callV_Ri (q := 30) (st := [.ref 0]) (args := [.long q_1]) (p := 8) hc (m_X0_follow hK hR (ch_8)) dX7_followed_27 ml_X7_184 cf_X0_follow iv_X0_follow (k_8 hK) (C := RX0) (T := TX0) (N := 8) rfl rfl (Nat.lt_of_succ_le (Nat.le_of_ble_eq_true rfl)) rfl rfl (Nat.le_of_ble_eq_true rfl) ⟨Nat.le_of_ble_eq_true rfl, Nat.le_of_ble_eq_true rfl⟩ rfl (fun q_2 => ?_)
    refine w_callV_Wi (q := 33) (st := []) (args := [.int q_2]) (p := 0) hc (m_X7_tell hK hR) dX7_followed_30 ml_X7_86 cf_X7_tell iv_X7_tell (k_0 hK) (C := RX7) (T := TX7) (N := 7) rfl rfl (Nat.lt_of_succ_le (Nat.le_of_ble_eq_true rfl)) rfl rfl (Nat.le_of_ble_eq_true rfl) ⟨Nat.le_of_ble_eq_true rfl, Nat.le_of_ble_eq_true rfl⟩ rfl (fun q_3 => ?_)
    exact w_ireturn (v := q_3.1) hc hq dX7_followed_33 rfl rfl rfl
  · refine w_aload_n (q := 13) (i := 0) (j := 1) hc dX7_followed_12 rfl rfl rfl ?_
    refine w_iconst (q := 14) hc dX7_followed_13 ci_1 rfl ?_
    refine w_callV_Wi (q := 17) (st := []) (args := [.int 1]) (p := 0) hc (m_X7_refuse hK hR) dX7_followed_14 ml_X7_56 cf_X7_refuse iv_X7_refuse (k_0 hK) (C := RX7) (T := TX7) (N := 7) rfl rfl (Nat.lt_of_succ_le (Nat.le_of_ble_eq_true rfl)) rfl rfl (Nat.le_of_ble_eq_true rfl) ⟨Nat.le_of_ble_eq_true rfl, Nat.le_of_ble_eq_true rfl⟩ rfl (fun q_4 => ?_)
    exact w_ireturn (v := q_4.1) hc hq dX7_followed_17 rfl rfl rfl
set_option maxRecDepth 100000 in
set_option maxHeartbeats 4000000 in
theorem m_X7_nth {l : Launch} {K : KT} {R : MR} {rm : Nat} {a1 : Int32} {I : MI} {L : ML} (hK0 : K = lK rm) (hR0 : R = lR rm) : MFg l yX7_nth cX7_nth 2 (some .long) 4 83 [.ref 0, .int a1] K R I L anLW meW (f_X7_nth a1 I L) := by
  refine mf_of (plainFor_of_name (by decide)) (Nat.le_of_ble_eq_true rfl) ?_
  intro G hc _ hK1 hR1 hn hq
  have hK := hK1.trans hK0
  have hR := hR1.trans hR0
  have hN : ∀ i, Nat.blt i 2 = true → i < gnL G := fun i h => hn ▸ Nat.blt_eq.mp h
  unfold f_X7_nth
  show WW G 0 [(0, .ref 0), (1, .int a1)] [] I L _
  refine w_iload_n (q := 1) (i := 1) (j := 1) hc dX7_nth_0 rfl rfl rfl ?_
  refine w_ifge (q := 4) (tgt := 11) hc dX7_nth_1 rfl rfl ?_ ?_
  · refine w_aload_n (q := 12) (i := 0) (j := 0) hc dX7_nth_11 rfl rfl rfl ?_
    refine gf_X7_19 (q := 15) hc dX7_nth_12 (k_0 hK) (r_0_1 hR) rfl ?_
    refine gf_X7_95 (q := 18) hc dX7_nth_15 (k_6 hK) rfl ?_
    refine w_ifeq (q := 21) (tgt := 32) hc dX7_nth_18 rfl rfl ?_ ?_
    · refine w_aload_n (q := 33) (i := 0) (j := 0) hc dX7_nth_32 rfl rfl rfl ?_
      refine w_iconst (q := 34) hc dX7_nth_33 ci_5 rfl ?_
      refine w_callV_Wi (q := 37) (st := []) (args := [.int 5]) (p := 0) hc (m_X7_refuse hK hR) dX7_nth_34 ml_X7_56 cf_X7_refuse iv_X7_refuse (k_0 hK) (C := RX7) (T := TX7) (N := 7) rfl rfl (Nat.lt_of_succ_le (Nat.le_of_ble_eq_true rfl)) rfl rfl (Nat.le_of_ble_eq_true rfl) ⟨Nat.le_of_ble_eq_true rfl, Nat.le_of_ble_eq_true rfl⟩ rfl (fun q_1 => ?_)
      refine w_i2l (q := 38) hc dX7_nth_37  rfl ?_
      exact w_lreturn hc hq dX7_nth_38 rfl rfl
    · refine w_iload_n (q := 22) (i := 1) (j := 1) hc dX7_nth_21 rfl rfl rfl ?_
      refine w_aload_n (q := 23) (i := 0) (j := 0) hc dX7_nth_22 rfl rfl rfl ?_
      refine gf_X7_19 (q := 26) hc dX7_nth_23 (k_0 hK) (r_0_1 hR) rfl ?_
      refine w_callV_Ri (q := 29) (st := [.int a1]) (args := []) (p := 6) hc (m_X2_size hK hR) dX7_nth_26 ml_X7_178 cf_X2_size iv_X2_size (k_6 hK) (C := RX2) (T := TX2) (N := 13) rfl rfl (Nat.lt_of_succ_le (Nat.le_of_ble_eq_true rfl)) rfl rfl (Nat.le_of_ble_eq_true rfl) ⟨Nat.le_of_ble_eq_true rfl, Nat.le_of_ble_eq_true rfl⟩ rfl (fun q_2 => ?_)
      refine w_icmplt (q := 32) (tgt := 39) hc dX7_nth_29 rfl rfl ?_ ?_
      · refine w_aload_n (q := 40) (i := 0) (j := 0) hc dX7_nth_39 rfl rfl rfl ?_
        refine w_aload_n (q := 41) (i := 0) (j := 0) hc dX7_nth_40 rfl rfl rfl ?_
        refine gf_X7_19 (q := 44) hc dX7_nth_41 (k_0 hK) (r_0_1 hR) rfl ?_
        refine gf_X7_163 (q := 47) hc dX7_nth_44 (k_6 hK) (r_6_3 hR) rfl ?_
        refine w_iload_n (q := 48) (i := 1) (j := 1) hc dX7_nth_47 rfl rfl rfl ?_
        refine w_callV_Rl (q := 51) (st := [.ref 0]) (args := [.int a1]) (p := 8) hc (m_X0_pick hK hR (ch_8)) dX7_nth_48 ml_X7_187 cf_X0_pick iv_X0_pick (k_8 hK) (C := RX0) (T := TX0) (N := 8) rfl rfl (Nat.lt_of_succ_le (Nat.le_of_ble_eq_true rfl)) rfl rfl (Nat.le_of_ble_eq_true rfl) ⟨Nat.le_of_ble_eq_true rfl, Nat.le_of_ble_eq_true rfl⟩ rfl (fun q_3 => ?_)
        refine w_callV_Wl (q := 54) (st := []) (args := [.long q_3]) (p := 0) hc (m_X7_tellTurn hK hR) dX7_nth_51 ml_X7_110 cf_X7_tellTurn iv_X7_tellTurn (k_0 hK) (C := RX7) (T := TX7) (N := 7) rfl rfl (Nat.lt_of_succ_le (Nat.le_of_ble_eq_true rfl)) rfl rfl (Nat.le_of_ble_eq_true rfl) ⟨Nat.le_of_ble_eq_true rfl, Nat.le_of_ble_eq_true rfl⟩ rfl (fun q_4 => ?_)
        exact w_lreturn hc hq dX7_nth_54 rfl rfl
      · refine w_aload_n (q := 33) (i := 0) (j := 0) hc dX7_nth_32 rfl rfl rfl ?_
        refine w_iconst (q := 34) hc dX7_nth_33 ci_5 rfl ?_
        refine w_callV_Wi (q := 37) (st := []) (args := [.int 5]) (p := 0) hc (m_X7_refuse hK hR) dX7_nth_34 ml_X7_56 cf_X7_refuse iv_X7_refuse (k_0 hK) (C := RX7) (T := TX7) (N := 7) rfl rfl (Nat.lt_of_succ_le (Nat.le_of_ble_eq_true rfl)) rfl rfl (Nat.le_of_ble_eq_true rfl) ⟨Nat.le_of_ble_eq_true rfl, Nat.le_of_ble_eq_true rfl⟩ rfl (fun q_5 => ?_)
        refine w_i2l (q := 38) hc dX7_nth_37  rfl ?_
        exact w_lreturn hc hq dX7_nth_38 rfl rfl
  · refine w_aload_n (q := 5) (i := 0) (j := 0) hc dX7_nth_4 rfl rfl rfl ?_
    refine w_iconst (q := 6) hc dX7_nth_5 ci_1 rfl ?_
    refine w_callV_Wi (q := 9) (st := []) (args := [.int 1]) (p := 0) hc (m_X7_refuse hK hR) dX7_nth_6 ml_X7_56 cf_X7_refuse iv_X7_refuse (k_0 hK) (C := RX7) (T := TX7) (N := 7) rfl rfl (Nat.lt_of_succ_le (Nat.le_of_ble_eq_true rfl)) rfl rfl (Nat.le_of_ble_eq_true rfl) ⟨Nat.le_of_ble_eq_true rfl, Nat.le_of_ble_eq_true rfl⟩ rfl (fun q_6 => ?_)
    refine w_i2l (q := 10) hc dX7_nth_9  rfl ?_
    exact w_lreturn hc hq dX7_nth_10 rfl rfl
set_option maxRecDepth 100000 in
set_option maxHeartbeats 4000000 in
theorem m_X7_rank {l : Launch} {K : KT} {R : MR} {rm : Nat} {a1 : Int64} {I : MI} {L : ML} (hK0 : K = lK rm) (hR0 : R = lR rm) : MFg l yX7_rank cX7_rank 6 (some .int) 3 78 [.ref 0, .long a1] K R I L anIW meW (f_X7_rank a1 I L) := by
  refine mf_of (plainFor_of_name (by decide)) (Nat.le_of_ble_eq_true rfl) ?_
  intro G hc _ hK1 hR1 hn hq
  have hK := hK1.trans hK0
  have hR := hR1.trans hR0
  have hN : ∀ i, Nat.blt i 6 = true → i < gnL G := fun i h => hn ▸ Nat.blt_eq.mp h
  unfold f_X7_rank
  show WW G 0 [(0, .ref 0), (1, .long a1)] [] I L _
  refine w_aload_n (q := 1) (i := 0) (j := 0) hc dX7_rank_0 rfl rfl rfl ?_
  refine w_lload_n (q := 2) (i := 1) (j := 1) hc dX7_rank_1 rfl rfl rfl ?_
  refine w_callV_Rl (q := 5) (st := []) (args := [.long a1]) (p := 0) hc (m_X7_read hK hR) dX7_rank_2 ml_X7_114 cf_X7_read iv_X7_read (k_0 hK) (C := RX7) (T := TX7) (N := 7) rfl rfl (Nat.lt_of_succ_le (Nat.le_of_ble_eq_true rfl)) rfl rfl (Nat.le_of_ble_eq_true rfl) ⟨Nat.le_of_ble_eq_true rfl, Nat.le_of_ble_eq_true rfl⟩ rfl (fun q_1 => ?_)
  refine w_lstore_n (q := 6) (i := 3) (lv' := [(3, .long q_1), (0, .ref 0), (1, .long a1)]) hc dX7_rank_5 rfl (hN 4 rfl) rfl rfl ?_
  refine w_lload_n (q := 7) (i := 3) (j := 0) hc dX7_rank_6 rfl rfl rfl ?_
  refine w_lconst (q := 8) hc dX7_rank_7 cl_0 rfl ?_
  refine w_lcmp (q := 9) hc dX7_rank_8  rfl ?_
  refine w_ifge (q := 12) (tgt := 18) hc dX7_rank_9 rfl rfl ?_ ?_
  · refine w_aload_n (q := 19) (i := 0) (j := 1) hc dX7_rank_18 rfl rfl rfl ?_
    refine gf_X7_19 (q := 22) hc dX7_rank_19 (k_0 hK) (r_0_1 hR) rfl ?_
    refine gf_X7_163 (q := 25) hc dX7_rank_22 (k_6 hK) (r_6_3 hR) rfl ?_
    refine w_lload_n (q := 26) (i := 3) (j := 0) hc dX7_rank_25 rfl rfl rfl ?_
    refine w_callV_Ri (q := 29) (st := []) (args := [.long q_1]) (p := 8) hc (m_X0_placeOf hK hR (ch_8)) dX7_rank_26 ml_X7_190 cf_X0_placeOf iv_X0_placeOf (k_8 hK) (C := RX0) (T := TX0) (N := 8) rfl rfl (Nat.lt_of_succ_le (Nat.le_of_ble_eq_true rfl)) rfl rfl (Nat.le_of_ble_eq_true rfl) ⟨Nat.le_of_ble_eq_true rfl, Nat.le_of_ble_eq_true rfl⟩ rfl (fun q_2 => ?_)
    refine w_istore (q := 31) (i := 5) (lv' := [(5, .int q_2), (3, .long q_1), (0, .ref 0), (1, .long a1)]) hc dX7_rank_29 (hN 5 rfl) rfl rfl ?_
    refine w_iload (q := 33) (i := 5) (j := 0) hc dX7_rank_31 rfl rfl ?_
    refine w_ifge (q := 36) (tgt := 45) hc dX7_rank_33 rfl rfl ?_ ?_
    · refine w_aload_n (q := 46) (i := 0) (j := 2) hc dX7_rank_45 rfl rfl rfl ?_
      refine w_iload (q := 48) (i := 5) (j := 0) hc dX7_rank_46 rfl rfl ?_
      refine w_callV_Wi (q := 51) (st := []) (args := [.int q_2]) (p := 0) hc (m_X7_tell hK hR) dX7_rank_48 ml_X7_86 cf_X7_tell iv_X7_tell (k_0 hK) (C := RX7) (T := TX7) (N := 7) rfl rfl (Nat.lt_of_succ_le (Nat.le_of_ble_eq_true rfl)) rfl rfl (Nat.le_of_ble_eq_true rfl) ⟨Nat.le_of_ble_eq_true rfl, Nat.le_of_ble_eq_true rfl⟩ rfl (fun q_3 => ?_)
      exact w_ireturn (v := q_3.1) hc hq dX7_rank_51 rfl rfl rfl
    · refine w_aload_n (q := 37) (i := 0) (j := 2) hc dX7_rank_36 rfl rfl rfl ?_
      refine w_bipush (q := 39) hc dX7_rank_37 cb_6 rfl ?_
      refine w_callV_Wi (q := 42) (st := []) (args := [.int 6]) (p := 0) hc (m_X7_refuse hK hR) dX7_rank_39 ml_X7_56 cf_X7_refuse iv_X7_refuse (k_0 hK) (C := RX7) (T := TX7) (N := 7) rfl rfl (Nat.lt_of_succ_le (Nat.le_of_ble_eq_true rfl)) rfl rfl (Nat.le_of_ble_eq_true rfl) ⟨Nat.le_of_ble_eq_true rfl, Nat.le_of_ble_eq_true rfl⟩ rfl (fun q_4 => ?_)
      refine w_goto (tgt := 51) hc dX7_rank_42 rfl ?_
      exact w_ireturn (v := q_4.1) hc hq dX7_rank_51 rfl rfl rfl
  · refine w_aload_n (q := 13) (i := 0) (j := 1) hc dX7_rank_12 rfl rfl rfl ?_
    refine w_iconst (q := 14) hc dX7_rank_13 ci_1 rfl ?_
    refine w_callV_Wi (q := 17) (st := []) (args := [.int 1]) (p := 0) hc (m_X7_refuse hK hR) dX7_rank_14 ml_X7_56 cf_X7_refuse iv_X7_refuse (k_0 hK) (C := RX7) (T := TX7) (N := 7) rfl rfl (Nat.lt_of_succ_le (Nat.le_of_ble_eq_true rfl)) rfl rfl (Nat.le_of_ble_eq_true rfl) ⟨Nat.le_of_ble_eq_true rfl, Nat.le_of_ble_eq_true rfl⟩ rfl (fun q_5 => ?_)
    exact w_ireturn (v := q_5.1) hc hq dX7_rank_17 rfl rfl rfl
set_option maxRecDepth 100000 in
set_option maxHeartbeats 4000000 in
theorem m_X7_hurdle {l : Launch} {K : KT} {R : MR} {rm : Nat} {I : MI} {L : ML} (hK0 : K = lK rm) (hR0 : R = lR rm) : MFg l yX7_hurdle cX7_hurdle 1 (some .int) 4 83 [.ref 0] K R I L anI (meR I L) (f_X7_hurdle I L) := by
  refine mf_of (plainFor_of_name (by decide)) (Nat.le_of_ble_eq_true rfl) ?_
  intro G hc _ hK1 hR1 hn hq
  have hK := hK1.trans hK0
  have hR := hR1.trans hR0
  have hN : ∀ i, Nat.blt i 1 = true → i < gnL G := fun i h => hn ▸ Nat.blt_eq.mp h
  unfold f_X7_hurdle
  show WW G 0 [(0, .ref 0)] [] I L _
  refine w_aload_n (q := 1) (i := 0) (j := 0) hc dX7_hurdle_0 rfl rfl rfl ?_
  refine gf_X7_19 (q := 4) hc dX7_hurdle_1 (k_0 hK) (r_0_1 hR) rfl ?_
  refine gf_X7_95 (q := 7) hc dX7_hurdle_4 (k_6 hK) rfl ?_
  refine w_ifne (q := 10) (tgt := 12) hc dX7_hurdle_7 rfl rfl ?_ ?_
  · refine w_iconst (q := 11) hc dX7_hurdle_10 ci_5 rfl ?_
    exact w_ireturn (v := 5) hc hq dX7_hurdle_11 rfl rfl rfl
  · refine w_aload_n (q := 13) (i := 0) (j := 0) hc dX7_hurdle_12 rfl rfl rfl ?_
    refine gf_X7_19 (q := 16) hc dX7_hurdle_13 (k_0 hK) (r_0_1 hR) rfl ?_
    refine w_callV_Ri (q := 19) (st := []) (args := []) (p := 6) hc (m_X2_size hK hR) dX7_hurdle_16 ml_X7_178 cf_X2_size iv_X2_size (k_6 hK) (C := RX2) (T := TX2) (N := 13) rfl rfl (Nat.lt_of_succ_le (Nat.le_of_ble_eq_true rfl)) rfl rfl (Nat.le_of_ble_eq_true rfl) ⟨Nat.le_of_ble_eq_true rfl, Nat.le_of_ble_eq_true rfl⟩ rfl (fun q_1 => ?_)
    refine w_sipush (q := 22) hc dX7_hurdle_19 cs_5040 rfl ?_
    refine w_icmple (q := 25) (tgt := 29) hc dX7_hurdle_22 rfl rfl ?_ ?_
    · refine w_iconst (q := 30) hc dX7_hurdle_29 ci_0 rfl ?_
      exact w_ireturn (v := 0) hc hq dX7_hurdle_30 rfl rfl rfl
    · refine w_iconst (q := 26) hc dX7_hurdle_25 ci_3 rfl ?_
      refine w_goto (tgt := 30) hc dX7_hurdle_26 rfl ?_
      exact w_ireturn (v := 3) hc hq dX7_hurdle_30 rfl rfl rfl
set_option maxRecDepth 100000 in
set_option maxHeartbeats 4000000 in
theorem m_X7_tellWay {l : Launch} {rm : Nat} {a1 : Int64} {a3 : Int32} {I : MI} {L : ML} : MFa l yX7_tellWay cX7_tellWay 7 (some .int) 5 128 [.ref 0, .long a1, .int a3] rm I L anIA meA roA (f_X7_tellWay rm a1 a3 I L) := by
  refine mfa_of (plainFor_of_name (by decide)) (Nat.le_of_ble_eq_true rfl) ?_
  intro G ad0 hc hX hRm hn
  have hK := hX.2.2.2.1
  have hR := hX.2.2.2.2.1
  have hN : ∀ i, Nat.blt i 7 = true → i < gnL G := fun i h => hn ▸ Nat.blt_eq.mp h
  unfold f_X7_tellWay
  show WW G 0 [(0, .ref 0), (1, .long a1), (3, .int a3)] [] I L _
  refine w_aload_n (q := 1) (i := 0) (j := 0) hc dX7_tellWay_0 rfl rfl rfl ?_
  refine w_callV_Ri (q := 4) (st := []) (args := []) (p := 0) hc (m_X7_hurdle hK hR) dX7_tellWay_1 ml_X7_196 cf_X7_hurdle iv_X7_hurdle (k_0 hK) (C := RX7) (T := TX7) (N := 7) rfl rfl (Nat.lt_of_succ_le (Nat.le_of_ble_eq_true rfl)) rfl rfl (Nat.le_of_ble_eq_true rfl) ⟨Nat.le_of_ble_eq_true rfl, Nat.le_of_ble_eq_true rfl⟩ rfl (fun q_1 => ?_)
  refine w_istore (q := 6) (i := 4) (lv' := [(4, .int q_1), (0, .ref 0), (1, .long a1), (3, .int a3)]) hc dX7_tellWay_4 (hN 4 rfl) rfl rfl ?_
  refine w_iload (q := 8) (i := 4) (j := 0) hc dX7_tellWay_6 rfl rfl ?_
  refine w_ifeq (q := 11) (tgt := 18) hc dX7_tellWay_8 rfl rfl ?_ ?_
  · refine w_aload_n (q := 19) (i := 0) (j := 1) hc dX7_tellWay_18 rfl rfl rfl ?_
    refine gf_X7_19 (q := 22) hc dX7_tellWay_19 (k_0 hK) (r_0_1 hR) rfl ?_
    refine w_callA_r (q := 25) (st := []) (args := []) (p := 6) hc hX hRm hn m_X2_measured dX7_tellWay_22 ml_X7_199 cf_X2_measured iv_X2_measured (k_6 hK) (C := RX2) (T := TX2) (N := 13) rfl rfl (Nat.lt_of_succ_le (Nat.le_of_ble_eq_true rfl)) rfl rfl (Nat.le_of_ble_eq_true rfl) ⟨Nat.le_of_ble_eq_true rfl, Nat.le_of_ble_eq_true rfl⟩ rfl rfl rfl (fun q_2 G hc hX hRm hn => ?_)
    have hK := hX.2.2.2.1
    have hR := hX.2.2.2.2.1
    have hN : ∀ i, Nat.blt i 7 = true → i < gnL G := fun i h => hn ▸ Nat.blt_eq.mp h
    refine w_chk (fun hrm_3 => ?_)
    have hrm : q_2.2 ≠ 0 := of_decide_eq_true hrm_3
    refine w_astore (q := 27) (i := 5) (lv' := [(5, .ref 69), (4, .int q_1), (0, .ref 0), (1, .long a1), (3, .int a3)]) hc dX7_tellWay_25 (hN 5 rfl) rfl rfl ?_
    refine w_aload (q := 29) (i := 5) (j := 0) hc dX7_tellWay_27 rfl rfl ?_
    refine w_lload_n (q := 30) (i := 1) (j := 3) hc dX7_tellWay_29 rfl rfl rfl ?_
    refine w_callV_Ri (q := 33) (st := []) (args := [.long a1]) (p := 69) hc (m_X4_find hK hR hrm) dX7_tellWay_30 ml_X7_224 cf_X4_find iv_X4_find (k_69 hK hrm) (C := RX4) (T := TX4) (N := 16) rfl rfl (Nat.lt_of_succ_le (Nat.le_of_ble_eq_true rfl)) rfl rfl (Nat.le_of_ble_eq_true rfl) ⟨Nat.le_of_ble_eq_true rfl, Nat.le_of_ble_eq_true rfl⟩ rfl (fun q_4 => ?_)
    refine w_istore (q := 35) (i := 6) (lv' := [(6, .int q_4), (5, .ref 69), (4, .int q_1), (0, .ref 0), (1, .long a1), (3, .int a3)]) hc dX7_tellWay_33 (hN 6 rfl) rfl rfl ?_
    refine w_iload (q := 37) (i := 6) (j := 0) hc dX7_tellWay_35 rfl rfl ?_
    refine w_ifge (q := 40) (tgt := 47) hc dX7_tellWay_37 rfl rfl ?_ ?_
    · refine w_iload_n (q := 48) (i := 3) (j := 5) hc dX7_tellWay_47 rfl rfl rfl ?_
      refine w_iconst (q := 49) hc dX7_tellWay_48 ci_m1 rfl ?_
      refine w_icmpne (q := 52) (tgt := 65) hc dX7_tellWay_49 rfl rfl ?_ ?_
      · refine w_aload_n (q := 53) (i := 0) (j := 3) hc dX7_tellWay_52 rfl rfl rfl ?_
        refine w_aload (q := 55) (i := 5) (j := 1) hc dX7_tellWay_53 rfl rfl ?_
        refine gf_X7_369 (q := 58) hc dX7_tellWay_55 (k_69 hK hrm) (r_69_4 hR) rfl ?_
        refine w_iload (q := 60) (i := 6) (j := 0) hc dX7_tellWay_58 rfl rfl ?_
        refine w_iald (q := 61) hc dX7_tellWay_60 (k_70 hK hrm) rfl ?_
        refine w_callV_Wi (q := 64) (st := []) (args := [.int (q_2.1.1 70 (ix q_4))]) (p := 0) hc (m_X7_tell hK hR) dX7_tellWay_61 ml_X7_86 cf_X7_tell iv_X7_tell (k_0 hK) (C := RX7) (T := TX7) (N := 7) rfl rfl (Nat.lt_of_succ_le (Nat.le_of_ble_eq_true rfl)) rfl rfl (Nat.le_of_ble_eq_true rfl) ⟨Nat.le_of_ble_eq_true rfl, Nat.le_of_ble_eq_true rfl⟩ rfl (fun q_8 => ?_)
        exact w_ireturnA (v := q_8.1) hc hX dX7_tellWay_64 rfl rfl rfl rfl
      · refine w_iload_n (q := 66) (i := 3) (j := 5) hc dX7_tellWay_65 rfl rfl rfl ?_
        refine w_aload (q := 68) (i := 5) (j := 1) hc dX7_tellWay_66 rfl rfl ?_
        refine gf_X7_369 (q := 71) hc dX7_tellWay_68 (k_69 hK hrm) (r_69_4 hR) rfl ?_
        refine w_iload (q := 73) (i := 6) (j := 0) hc dX7_tellWay_71 rfl rfl ?_
        refine w_iald (q := 74) hc dX7_tellWay_73 (k_70 hK hrm) rfl ?_
        refine w_icmplt (q := 77) (tgt := 85) hc dX7_tellWay_74 rfl rfl ?_ ?_
        · refine w_aload_n (q := 86) (i := 0) (j := 3) hc dX7_tellWay_85 rfl rfl rfl ?_
          refine w_aload (q := 88) (i := 5) (j := 1) hc dX7_tellWay_86 rfl rfl ?_
          refine w_iload (q := 90) (i := 6) (j := 0) hc dX7_tellWay_88 rfl rfl ?_
          refine w_iload_n (q := 91) (i := 3) (j := 5) hc dX7_tellWay_90 rfl rfl rfl ?_
          refine w_callV_Ri (q := 94) (st := [.ref 0]) (args := [.int q_4, .int a3]) (p := 69) hc (m_X4_stepOfWay hK hR hrm) dX7_tellWay_91 ml_X7_372 cf_X4_stepOfWay iv_X4_stepOfWay (k_69 hK hrm) (C := RX4) (T := TX4) (N := 16) rfl rfl (Nat.lt_of_succ_le (Nat.le_of_ble_eq_true rfl)) rfl rfl (Nat.le_of_ble_eq_true rfl) ⟨Nat.le_of_ble_eq_true rfl, Nat.le_of_ble_eq_true rfl⟩ rfl (fun q_5 => ?_)
          refine w_callV_Wi (q := 97) (st := []) (args := [.int q_5]) (p := 0) hc (m_X7_tell hK hR) dX7_tellWay_94 ml_X7_86 cf_X7_tell iv_X7_tell (k_0 hK) (C := RX7) (T := TX7) (N := 7) rfl rfl (Nat.lt_of_succ_le (Nat.le_of_ble_eq_true rfl)) rfl rfl (Nat.le_of_ble_eq_true rfl) ⟨Nat.le_of_ble_eq_true rfl, Nat.le_of_ble_eq_true rfl⟩ rfl (fun q_6 => ?_)
          exact w_ireturnA (v := q_6.1) hc hX dX7_tellWay_97 rfl rfl rfl rfl
        · refine w_aload_n (q := 78) (i := 0) (j := 3) hc dX7_tellWay_77 rfl rfl rfl ?_
          refine w_iconst (q := 79) hc dX7_tellWay_78 ci_5 rfl ?_
          refine w_callV_Wi (q := 82) (st := []) (args := [.int 5]) (p := 0) hc (m_X7_refuse hK hR) dX7_tellWay_79 ml_X7_56 cf_X7_refuse iv_X7_refuse (k_0 hK) (C := RX7) (T := TX7) (N := 7) rfl rfl (Nat.lt_of_succ_le (Nat.le_of_ble_eq_true rfl)) rfl rfl (Nat.le_of_ble_eq_true rfl) ⟨Nat.le_of_ble_eq_true rfl, Nat.le_of_ble_eq_true rfl⟩ rfl (fun q_7 => ?_)
          refine w_goto (tgt := 97) hc dX7_tellWay_82 rfl ?_
          exact w_ireturnA (v := q_7.1) hc hX dX7_tellWay_97 rfl rfl rfl rfl
    · refine w_aload_n (q := 41) (i := 0) (j := 3) hc dX7_tellWay_40 rfl rfl rfl ?_
      refine w_bipush (q := 43) hc dX7_tellWay_41 cb_6 rfl ?_
      refine w_callV_Wi (q := 46) (st := []) (args := [.int 6]) (p := 0) hc (m_X7_refuse hK hR) dX7_tellWay_43 ml_X7_56 cf_X7_refuse iv_X7_refuse (k_0 hK) (C := RX7) (T := TX7) (N := 7) rfl rfl (Nat.lt_of_succ_le (Nat.le_of_ble_eq_true rfl)) rfl rfl (Nat.le_of_ble_eq_true rfl) ⟨Nat.le_of_ble_eq_true rfl, Nat.le_of_ble_eq_true rfl⟩ rfl (fun q_9 => ?_)
      exact w_ireturnA (v := q_9.1) hc hX dX7_tellWay_46 rfl rfl rfl rfl
  · refine w_aload_n (q := 12) (i := 0) (j := 1) hc dX7_tellWay_11 rfl rfl rfl ?_
    refine w_iload (q := 14) (i := 4) (j := 0) hc dX7_tellWay_12 rfl rfl ?_
    refine w_callV_Wi (q := 17) (st := []) (args := [.int q_1]) (p := 0) hc (m_X7_refuse hK hR) dX7_tellWay_14 ml_X7_56 cf_X7_refuse iv_X7_refuse (k_0 hK) (C := RX7) (T := TX7) (N := 7) rfl rfl (Nat.lt_of_succ_le (Nat.le_of_ble_eq_true rfl)) rfl rfl (Nat.le_of_ble_eq_true rfl) ⟨Nat.le_of_ble_eq_true rfl, Nat.le_of_ble_eq_true rfl⟩ rfl (fun q_10 => ?_)
    exact w_ireturnA (v := q_10.1) hc hX dX7_tellWay_17 rfl rfl rfl rfl
set_option maxRecDepth 100000 in
set_option maxHeartbeats 4000000 in
theorem m_X7_way {l : Launch} {rm : Nat} {a1 : Int64} {a3 : Int32} {I : MI} {L : ML} : MFa l yX7_way cX7_way 6 (some .int) 6 154 [.ref 0, .long a1, .int a3] rm I L anIA meA roA (f_X7_way rm a1 a3 I L) := by
  refine mfa_of (plainFor_of_name (by decide)) (Nat.le_of_ble_eq_true rfl) ?_
  intro G ad0 hc hX hRm hn
  have hK := hX.2.2.2.1
  have hR := hX.2.2.2.2.1
  have hN : ∀ i, Nat.blt i 6 = true → i < gnL G := fun i h => hn ▸ Nat.blt_eq.mp h
  unfold f_X7_way
  show WW G 0 [(0, .ref 0), (1, .long a1), (3, .int a3)] [] I L _
  refine w_aload_n (q := 1) (i := 0) (j := 0) hc dX7_way_0 rfl rfl rfl ?_
  refine w_lload_n (q := 2) (i := 1) (j := 1) hc dX7_way_1 rfl rfl rfl ?_
  refine w_callV_Rl (q := 5) (st := []) (args := [.long a1]) (p := 0) hc (m_X7_read hK hR) dX7_way_2 ml_X7_114 cf_X7_read iv_X7_read (k_0 hK) (C := RX7) (T := TX7) (N := 7) rfl rfl (Nat.lt_of_succ_le (Nat.le_of_ble_eq_true rfl)) rfl rfl (Nat.le_of_ble_eq_true rfl) ⟨Nat.le_of_ble_eq_true rfl, Nat.le_of_ble_eq_true rfl⟩ rfl (fun q_1 => ?_)
  refine w_lstore (q := 7) (i := 4) (lv' := [(4, .long q_1), (0, .ref 0), (1, .long a1), (3, .int a3)]) hc dX7_way_5 (hN 5 rfl) rfl rfl ?_
  refine w_lload (q := 9) (i := 4) (j := 0) hc dX7_way_7 rfl rfl ?_
  refine w_lconst (q := 10) hc dX7_way_9 cl_0 rfl ?_
  refine w_lcmp (q := 11) hc dX7_way_10  rfl ?_
  refine w_iflt (q := 14) (tgt := 19) hc dX7_way_11 rfl rfl ?_ ?_
  · refine w_aload_n (q := 20) (i := 0) (j := 1) hc dX7_way_19 rfl rfl rfl ?_
    refine w_iconst (q := 21) hc dX7_way_20 ci_1 rfl ?_
    refine w_callV_Wi (q := 24) (st := []) (args := [.int 1]) (p := 0) hc (m_X7_refuse hK hR) dX7_way_21 ml_X7_56 cf_X7_refuse iv_X7_refuse (k_0 hK) (C := RX7) (T := TX7) (N := 7) rfl rfl (Nat.lt_of_succ_le (Nat.le_of_ble_eq_true rfl)) rfl rfl (Nat.le_of_ble_eq_true rfl) ⟨Nat.le_of_ble_eq_true rfl, Nat.le_of_ble_eq_true rfl⟩ rfl (fun q_2 => ?_)
    exact w_ireturnA (v := q_2.1) hc hX dX7_way_24 rfl rfl rfl rfl
  · refine w_iload_n (q := 15) (i := 3) (j := 3) hc dX7_way_14 rfl rfl rfl ?_
    refine w_iconst (q := 16) hc dX7_way_15 ci_m1 rfl ?_
    refine w_icmpge (q := 19) (tgt := 25) hc dX7_way_16 rfl rfl ?_ ?_
    · refine w_aload_n (q := 26) (i := 0) (j := 1) hc dX7_way_25 rfl rfl rfl ?_
      refine w_lload (q := 28) (i := 4) (j := 0) hc dX7_way_26 rfl rfl ?_
      refine w_iload_n (q := 29) (i := 3) (j := 3) hc dX7_way_28 rfl rfl rfl ?_
      refine w_callA_i (q := 32) (st := []) (args := [.long q_1, .int a3]) (p := 0) hc hX hRm hn m_X7_tellWay dX7_way_29 ml_X7_193 cf_X7_tellWay iv_X7_tellWay (k_0 hK) (C := RX7) (T := TX7) (N := 7) rfl rfl (Nat.lt_of_succ_le (Nat.le_of_ble_eq_true rfl)) rfl rfl (Nat.le_of_ble_eq_true rfl) ⟨Nat.le_of_ble_eq_true rfl, Nat.le_of_ble_eq_true rfl⟩ rfl rfl rfl (fun q_3 G hc hX hRm hn => ?_)
      have hK := hX.2.2.2.1
      have hR := hX.2.2.2.2.1
      have hN : ∀ i, Nat.blt i 6 = true → i < gnL G := fun i h => hn ▸ Nat.blt_eq.mp h
      exact w_ireturnA (v := q_3.1.1) hc hX dX7_way_32 rfl rfl rfl rfl
    · refine w_aload_n (q := 20) (i := 0) (j := 1) hc dX7_way_19 rfl rfl rfl ?_
      refine w_iconst (q := 21) hc dX7_way_20 ci_1 rfl ?_
      refine w_callV_Wi (q := 24) (st := []) (args := [.int 1]) (p := 0) hc (m_X7_refuse hK hR) dX7_way_21 ml_X7_56 cf_X7_refuse iv_X7_refuse (k_0 hK) (C := RX7) (T := TX7) (N := 7) rfl rfl (Nat.lt_of_succ_le (Nat.le_of_ble_eq_true rfl)) rfl rfl (Nat.le_of_ble_eq_true rfl) ⟨Nat.le_of_ble_eq_true rfl, Nat.le_of_ble_eq_true rfl⟩ rfl (fun q_4 => ?_)
      exact w_ireturnA (v := q_4.1) hc hX dX7_way_24 rfl rfl rfl rfl
set_option maxRecDepth 100000 in
set_option maxHeartbeats 4000000 in
theorem m_X7_deep {l : Launch} {rm : Nat} {a1 : Int32} {I : MI} {L : ML} : MFa l yX7_deep cX7_deep 4 (some .int) 5 128 [.ref 0, .int a1] rm I L anIA meA roA (f_X7_deep rm a1 I L) := by
  refine mfa_of (plainFor_of_name (by decide)) (Nat.le_of_ble_eq_true rfl) ?_
  intro G ad0 hc hX hRm hn
  have hK := hX.2.2.2.1
  have hR := hX.2.2.2.2.1
  have hN : ∀ i, Nat.blt i 4 = true → i < gnL G := fun i h => hn ▸ Nat.blt_eq.mp h
  unfold f_X7_deep
  show WW G 0 [(0, .ref 0), (1, .int a1)] [] I L _
  refine w_iload_n (q := 1) (i := 1) (j := 1) hc dX7_deep_0 rfl rfl rfl ?_
  refine w_ifge (q := 4) (tgt := 10) hc dX7_deep_1 rfl rfl ?_ ?_
  · refine w_aload_n (q := 11) (i := 0) (j := 0) hc dX7_deep_10 rfl rfl rfl ?_
    refine w_callV_Ri (q := 14) (st := []) (args := []) (p := 0) hc (m_X7_hurdle hK hR) dX7_deep_11 ml_X7_196 cf_X7_hurdle iv_X7_hurdle (k_0 hK) (C := RX7) (T := TX7) (N := 7) rfl rfl (Nat.lt_of_succ_le (Nat.le_of_ble_eq_true rfl)) rfl rfl (Nat.le_of_ble_eq_true rfl) ⟨Nat.le_of_ble_eq_true rfl, Nat.le_of_ble_eq_true rfl⟩ rfl (fun q_1 => ?_)
    refine w_istore_n (q := 15) (i := 2) (lv' := [(2, .int q_1), (0, .ref 0), (1, .int a1)]) hc dX7_deep_14 rfl (hN 2 rfl) rfl rfl ?_
    refine w_iload_n (q := 16) (i := 2) (j := 0) hc dX7_deep_15 rfl rfl rfl ?_
    refine w_ifeq (q := 19) (tgt := 25) hc dX7_deep_16 rfl rfl ?_ ?_
    · refine w_aload_n (q := 26) (i := 0) (j := 1) hc dX7_deep_25 rfl rfl rfl ?_
      refine gf_X7_19 (q := 29) hc dX7_deep_26 (k_0 hK) (r_0_1 hR) rfl ?_
      refine w_callA_r (q := 32) (st := []) (args := []) (p := 6) hc hX hRm hn m_X2_measured dX7_deep_29 ml_X7_199 cf_X2_measured iv_X2_measured (k_6 hK) (C := RX2) (T := TX2) (N := 13) rfl rfl (Nat.lt_of_succ_le (Nat.le_of_ble_eq_true rfl)) rfl rfl (Nat.le_of_ble_eq_true rfl) ⟨Nat.le_of_ble_eq_true rfl, Nat.le_of_ble_eq_true rfl⟩ rfl rfl rfl (fun q_2 G hc hX hRm hn => ?_)
      have hK := hX.2.2.2.1
      have hR := hX.2.2.2.2.1
      have hN : ∀ i, Nat.blt i 4 = true → i < gnL G := fun i h => hn ▸ Nat.blt_eq.mp h
      refine w_chk (fun hrm_3 => ?_)
      have hrm : q_2.2 ≠ 0 := of_decide_eq_true hrm_3
      refine w_iload_n (q := 33) (i := 1) (j := 2) hc dX7_deep_32 rfl rfl rfl ?_
      refine w_callV_Ri (q := 36) (st := []) (args := [.int a1]) (p := 69) hc (m_X4_countDeep hK hR hrm) dX7_deep_33 ml_X7_203 cf_X4_countDeep iv_X4_countDeep (k_69 hK hrm) (C := RX4) (T := TX4) (N := 16) rfl rfl (Nat.lt_of_succ_le (Nat.le_of_ble_eq_true rfl)) rfl rfl (Nat.le_of_ble_eq_true rfl) ⟨Nat.le_of_ble_eq_true rfl, Nat.le_of_ble_eq_true rfl⟩ rfl (fun q_4 => ?_)
      refine w_istore_n (q := 37) (i := 3) (lv' := [(3, .int q_4), (2, .int q_1), (0, .ref 0), (1, .int a1)]) hc dX7_deep_36 rfl (hN 3 rfl) rfl rfl ?_
      refine w_iload_n (q := 38) (i := 3) (j := 0) hc dX7_deep_37 rfl rfl rfl ?_
      refine w_ifne (q := 41) (tgt := 49) hc dX7_deep_38 rfl rfl ?_ ?_
      · refine w_aload_n (q := 42) (i := 0) (j := 2) hc dX7_deep_41 rfl rfl rfl ?_
        refine w_iconst (q := 43) hc dX7_deep_42 ci_5 rfl ?_
        refine w_callV_Wi (q := 46) (st := []) (args := [.int 5]) (p := 0) hc (m_X7_refuse hK hR) dX7_deep_43 ml_X7_56 cf_X7_refuse iv_X7_refuse (k_0 hK) (C := RX7) (T := TX7) (N := 7) rfl rfl (Nat.lt_of_succ_le (Nat.le_of_ble_eq_true rfl)) rfl rfl (Nat.le_of_ble_eq_true rfl) ⟨Nat.le_of_ble_eq_true rfl, Nat.le_of_ble_eq_true rfl⟩ rfl (fun q_6 => ?_)
        refine w_goto (tgt := 54) hc dX7_deep_46 rfl ?_
        exact w_ireturnA (v := q_6.1) hc hX dX7_deep_54 rfl rfl rfl rfl
      · refine w_aload_n (q := 50) (i := 0) (j := 2) hc dX7_deep_49 rfl rfl rfl ?_
        refine w_iload_n (q := 51) (i := 3) (j := 0) hc dX7_deep_50 rfl rfl rfl ?_
        refine w_callV_Wi (q := 54) (st := []) (args := [.int q_4]) (p := 0) hc (m_X7_tell hK hR) dX7_deep_51 ml_X7_86 cf_X7_tell iv_X7_tell (k_0 hK) (C := RX7) (T := TX7) (N := 7) rfl rfl (Nat.lt_of_succ_le (Nat.le_of_ble_eq_true rfl)) rfl rfl (Nat.le_of_ble_eq_true rfl) ⟨Nat.le_of_ble_eq_true rfl, Nat.le_of_ble_eq_true rfl⟩ rfl (fun q_5 => ?_)
        exact w_ireturnA (v := q_5.1) hc hX dX7_deep_54 rfl rfl rfl rfl
    · refine w_aload_n (q := 20) (i := 0) (j := 1) hc dX7_deep_19 rfl rfl rfl ?_
      refine w_iload_n (q := 21) (i := 2) (j := 0) hc dX7_deep_20 rfl rfl rfl ?_
      refine w_callV_Wi (q := 24) (st := []) (args := [.int q_1]) (p := 0) hc (m_X7_refuse hK hR) dX7_deep_21 ml_X7_56 cf_X7_refuse iv_X7_refuse (k_0 hK) (C := RX7) (T := TX7) (N := 7) rfl rfl (Nat.lt_of_succ_le (Nat.le_of_ble_eq_true rfl)) rfl rfl (Nat.le_of_ble_eq_true rfl) ⟨Nat.le_of_ble_eq_true rfl, Nat.le_of_ble_eq_true rfl⟩ rfl (fun q_7 => ?_)
      exact w_ireturnA (v := q_7.1) hc hX dX7_deep_24 rfl rfl rfl rfl
  · refine w_aload_n (q := 5) (i := 0) (j := 0) hc dX7_deep_4 rfl rfl rfl ?_
    refine w_iconst (q := 6) hc dX7_deep_5 ci_1 rfl ?_
    refine w_callV_Wi (q := 9) (st := []) (args := [.int 1]) (p := 0) hc (m_X7_refuse hK hR) dX7_deep_6 ml_X7_56 cf_X7_refuse iv_X7_refuse (k_0 hK) (C := RX7) (T := TX7) (N := 7) rfl rfl (Nat.lt_of_succ_le (Nat.le_of_ble_eq_true rfl)) rfl rfl (Nat.le_of_ble_eq_true rfl) ⟨Nat.le_of_ble_eq_true rfl, Nat.le_of_ble_eq_true rfl⟩ rfl (fun q_8 => ?_)
    exact w_ireturnA (v := q_8.1) hc hX dX7_deep_9 rfl rfl rfl rfl
set_option maxRecDepth 100000 in
set_option maxHeartbeats 4000000 in
theorem m_X7_deepest {l : Launch} {rm : Nat} {a1 : Int32} {I : MI} {L : ML} : MFa l yX7_deepest cX7_deepest 4 (some .int) 5 128 [.ref 0, .int a1] rm I L anIA meA roA (f_X7_deepest rm a1 I L) := by
  refine mfa_of (plainFor_of_name (by decide)) (Nat.le_of_ble_eq_true rfl) ?_
  intro G ad0 hc hX hRm hn
  have hK := hX.2.2.2.1
  have hR := hX.2.2.2.2.1
  have hN : ∀ i, Nat.blt i 4 = true → i < gnL G := fun i h => hn ▸ Nat.blt_eq.mp h
  unfold f_X7_deepest
  show WW G 0 [(0, .ref 0), (1, .int a1)] [] I L _
  refine w_iload_n (q := 1) (i := 1) (j := 1) hc dX7_deepest_0 rfl rfl rfl ?_
  refine w_iflt (q := 4) (tgt := 9) hc dX7_deepest_1 rfl rfl ?_ ?_
  · refine w_aload_n (q := 10) (i := 0) (j := 0) hc dX7_deepest_9 rfl rfl rfl ?_
    refine w_iconst (q := 11) hc dX7_deepest_10 ci_1 rfl ?_
    refine w_callV_Wi (q := 14) (st := []) (args := [.int 1]) (p := 0) hc (m_X7_refuse hK hR) dX7_deepest_11 ml_X7_56 cf_X7_refuse iv_X7_refuse (k_0 hK) (C := RX7) (T := TX7) (N := 7) rfl rfl (Nat.lt_of_succ_le (Nat.le_of_ble_eq_true rfl)) rfl rfl (Nat.le_of_ble_eq_true rfl) ⟨Nat.le_of_ble_eq_true rfl, Nat.le_of_ble_eq_true rfl⟩ rfl (fun q_1 => ?_)
    exact w_ireturnA (v := q_1.1) hc hX dX7_deepest_14 rfl rfl rfl rfl
  · refine w_iload_n (q := 5) (i := 1) (j := 1) hc dX7_deepest_4 rfl rfl rfl ?_
    refine w_iconst (q := 6) hc dX7_deepest_5 ci_1 rfl ?_
    refine w_icmple (q := 9) (tgt := 15) hc dX7_deepest_6 rfl rfl ?_ ?_
    · refine w_aload_n (q := 16) (i := 0) (j := 0) hc dX7_deepest_15 rfl rfl rfl ?_
      refine w_callV_Ri (q := 19) (st := []) (args := []) (p := 0) hc (m_X7_hurdle hK hR) dX7_deepest_16 ml_X7_196 cf_X7_hurdle iv_X7_hurdle (k_0 hK) (C := RX7) (T := TX7) (N := 7) rfl rfl (Nat.lt_of_succ_le (Nat.le_of_ble_eq_true rfl)) rfl rfl (Nat.le_of_ble_eq_true rfl) ⟨Nat.le_of_ble_eq_true rfl, Nat.le_of_ble_eq_true rfl⟩ rfl (fun q_2 => ?_)
      refine w_istore_n (q := 20) (i := 2) (lv' := [(2, .int q_2), (0, .ref 0), (1, .int a1)]) hc dX7_deepest_19 rfl (hN 2 rfl) rfl rfl ?_
      refine w_iload_n (q := 21) (i := 2) (j := 0) hc dX7_deepest_20 rfl rfl rfl ?_
      refine w_ifeq (q := 24) (tgt := 30) hc dX7_deepest_21 rfl rfl ?_ ?_
      · refine w_aload_n (q := 31) (i := 0) (j := 1) hc dX7_deepest_30 rfl rfl rfl ?_
        refine gf_X7_19 (q := 34) hc dX7_deepest_31 (k_0 hK) (r_0_1 hR) rfl ?_
        refine w_callA_r (q := 37) (st := []) (args := []) (p := 6) hc hX hRm hn m_X2_measured dX7_deepest_34 ml_X7_199 cf_X2_measured iv_X2_measured (k_6 hK) (C := RX2) (T := TX2) (N := 13) rfl rfl (Nat.lt_of_succ_le (Nat.le_of_ble_eq_true rfl)) rfl rfl (Nat.le_of_ble_eq_true rfl) ⟨Nat.le_of_ble_eq_true rfl, Nat.le_of_ble_eq_true rfl⟩ rfl rfl rfl (fun q_3 G hc hX hRm hn => ?_)
        have hK := hX.2.2.2.1
        have hR := hX.2.2.2.2.1
        have hN : ∀ i, Nat.blt i 4 = true → i < gnL G := fun i h => hn ▸ Nat.blt_eq.mp h
        refine w_chk (fun hrm_4 => ?_)
        have hrm : q_3.2 ≠ 0 := of_decide_eq_true hrm_4
        refine w_astore_n (q := 38) (i := 3) (lv' := [(3, .ref 69), (2, .int q_2), (0, .ref 0), (1, .int a1)]) hc dX7_deepest_37 rfl (hN 3 rfl) rfl rfl ?_
        refine w_aload_n (q := 39) (i := 0) (j := 2) hc dX7_deepest_38 rfl rfl rfl ?_
        refine w_iload_n (q := 40) (i := 1) (j := 3) hc dX7_deepest_39 rfl rfl rfl ?_
        refine w_ifne (q := 43) (tgt := 50) hc dX7_deepest_40 rfl rfl ?_ ?_
        · refine w_aload_n (q := 44) (i := 3) (j := 0) hc dX7_deepest_43 rfl rfl rfl ?_
          refine gf_X7_208 (q := 47) hc dX7_deepest_44 (k_69 hK hrm) rfl ?_
          refine w_goto (tgt := 58) hc dX7_deepest_47 rfl ?_
          refine w_callV_Wi (q := 61) (st := []) (args := [.int (q_3.1.1 69 2)]) (p := 0) hc (m_X7_tell hK hR) dX7_deepest_58 ml_X7_86 cf_X7_tell iv_X7_tell (k_0 hK) (C := RX7) (T := TX7) (N := 7) rfl rfl (Nat.lt_of_succ_le (Nat.le_of_ble_eq_true rfl)) rfl rfl (Nat.le_of_ble_eq_true rfl) ⟨Nat.le_of_ble_eq_true rfl, Nat.le_of_ble_eq_true rfl⟩ rfl (fun q_7 => ?_)
          exact w_ireturnA (v := q_7.1) hc hX dX7_deepest_61 rfl rfl rfl rfl
        · refine w_aload_n (q := 51) (i := 3) (j := 0) hc dX7_deepest_50 rfl rfl rfl ?_
          refine w_aload_n (q := 52) (i := 3) (j := 0) hc dX7_deepest_51 rfl rfl rfl ?_
          refine gf_X7_208 (q := 55) hc dX7_deepest_52 (k_69 hK hrm) rfl ?_
          refine w_callV_Ri (q := 58) (st := [.ref 0]) (args := [.int (q_3.1.1 69 2)]) (p := 69) hc (m_X4_firstDeep hK hR hrm) dX7_deepest_55 ml_X7_211 cf_X4_firstDeep iv_X4_firstDeep (k_69 hK hrm) (C := RX4) (T := TX4) (N := 16) rfl rfl (Nat.lt_of_succ_le (Nat.le_of_ble_eq_true rfl)) rfl rfl (Nat.le_of_ble_eq_true rfl) ⟨Nat.le_of_ble_eq_true rfl, Nat.le_of_ble_eq_true rfl⟩ rfl (fun q_5 => ?_)
          refine w_callV_Wi (q := 61) (st := []) (args := [.int q_5]) (p := 0) hc (m_X7_tell hK hR) dX7_deepest_58 ml_X7_86 cf_X7_tell iv_X7_tell (k_0 hK) (C := RX7) (T := TX7) (N := 7) rfl rfl (Nat.lt_of_succ_le (Nat.le_of_ble_eq_true rfl)) rfl rfl (Nat.le_of_ble_eq_true rfl) ⟨Nat.le_of_ble_eq_true rfl, Nat.le_of_ble_eq_true rfl⟩ rfl (fun q_6 => ?_)
          exact w_ireturnA (v := q_6.1) hc hX dX7_deepest_61 rfl rfl rfl rfl
      · refine w_aload_n (q := 25) (i := 0) (j := 1) hc dX7_deepest_24 rfl rfl rfl ?_
        refine w_iload_n (q := 26) (i := 2) (j := 0) hc dX7_deepest_25 rfl rfl rfl ?_
        refine w_callV_Wi (q := 29) (st := []) (args := [.int q_2]) (p := 0) hc (m_X7_refuse hK hR) dX7_deepest_26 ml_X7_56 cf_X7_refuse iv_X7_refuse (k_0 hK) (C := RX7) (T := TX7) (N := 7) rfl rfl (Nat.lt_of_succ_le (Nat.le_of_ble_eq_true rfl)) rfl rfl (Nat.le_of_ble_eq_true rfl) ⟨Nat.le_of_ble_eq_true rfl, Nat.le_of_ble_eq_true rfl⟩ rfl (fun q_8 => ?_)
        exact w_ireturnA (v := q_8.1) hc hX dX7_deepest_29 rfl rfl rfl rfl
    · refine w_aload_n (q := 10) (i := 0) (j := 0) hc dX7_deepest_9 rfl rfl rfl ?_
      refine w_iconst (q := 11) hc dX7_deepest_10 ci_1 rfl ?_
      refine w_callV_Wi (q := 14) (st := []) (args := [.int 1]) (p := 0) hc (m_X7_refuse hK hR) dX7_deepest_11 ml_X7_56 cf_X7_refuse iv_X7_refuse (k_0 hK) (C := RX7) (T := TX7) (N := 7) rfl rfl (Nat.lt_of_succ_le (Nat.le_of_ble_eq_true rfl)) rfl rfl (Nat.le_of_ble_eq_true rfl) ⟨Nat.le_of_ble_eq_true rfl, Nat.le_of_ble_eq_true rfl⟩ rfl (fun q_9 => ?_)
      exact w_ireturnA (v := q_9.1) hc hX dX7_deepest_14 rfl rfl rfl rfl
set_option maxRecDepth 100000 in
set_option maxHeartbeats 4000000 in
theorem m_X7_mean {l : Launch} {rm : Nat} {a1 : Int32} {I : MI} {L : ML} : MFa l yX7_mean cX7_mean 6 (some .int) 5 128 [.ref 0, .int a1] rm I L anIA meA roA (f_X7_mean rm a1 I L) := by
  refine mfa_of (plainFor_of_name (by decide)) (Nat.le_of_ble_eq_true rfl) ?_
  intro G ad0 hc hX hRm hn
  have hK := hX.2.2.2.1
  have hR := hX.2.2.2.2.1
  have hN : ∀ i, Nat.blt i 6 = true → i < gnL G := fun i h => hn ▸ Nat.blt_eq.mp h
  unfold f_X7_mean
  show WW G 0 [(0, .ref 0), (1, .int a1)] [] I L _
  refine w_iload_n (q := 1) (i := 1) (j := 1) hc dX7_mean_0 rfl rfl rfl ?_
  refine w_iflt (q := 4) (tgt := 9) hc dX7_mean_1 rfl rfl ?_ ?_
  · refine w_aload_n (q := 10) (i := 0) (j := 0) hc dX7_mean_9 rfl rfl rfl ?_
    refine w_iconst (q := 11) hc dX7_mean_10 ci_1 rfl ?_
    refine w_callV_Wi (q := 14) (st := []) (args := [.int 1]) (p := 0) hc (m_X7_refuse hK hR) dX7_mean_11 ml_X7_56 cf_X7_refuse iv_X7_refuse (k_0 hK) (C := RX7) (T := TX7) (N := 7) rfl rfl (Nat.lt_of_succ_le (Nat.le_of_ble_eq_true rfl)) rfl rfl (Nat.le_of_ble_eq_true rfl) ⟨Nat.le_of_ble_eq_true rfl, Nat.le_of_ble_eq_true rfl⟩ rfl (fun q_1 => ?_)
    exact w_ireturnA (v := q_1.1) hc hX dX7_mean_14 rfl rfl rfl rfl
  · refine w_iload_n (q := 5) (i := 1) (j := 1) hc dX7_mean_4 rfl rfl rfl ?_
    refine w_iconst (q := 6) hc dX7_mean_5 ci_1 rfl ?_
    refine w_icmple (q := 9) (tgt := 15) hc dX7_mean_6 rfl rfl ?_ ?_
    · refine w_aload_n (q := 16) (i := 0) (j := 0) hc dX7_mean_15 rfl rfl rfl ?_
      refine w_callV_Ri (q := 19) (st := []) (args := []) (p := 0) hc (m_X7_hurdle hK hR) dX7_mean_16 ml_X7_196 cf_X7_hurdle iv_X7_hurdle (k_0 hK) (C := RX7) (T := TX7) (N := 7) rfl rfl (Nat.lt_of_succ_le (Nat.le_of_ble_eq_true rfl)) rfl rfl (Nat.le_of_ble_eq_true rfl) ⟨Nat.le_of_ble_eq_true rfl, Nat.le_of_ble_eq_true rfl⟩ rfl (fun q_2 => ?_)
      refine w_istore_n (q := 20) (i := 2) (lv' := [(2, .int q_2), (0, .ref 0), (1, .int a1)]) hc dX7_mean_19 rfl (hN 2 rfl) rfl rfl ?_
      refine w_iload_n (q := 21) (i := 2) (j := 0) hc dX7_mean_20 rfl rfl rfl ?_
      refine w_ifeq (q := 24) (tgt := 30) hc dX7_mean_21 rfl rfl ?_ ?_
      · refine w_aload_n (q := 31) (i := 0) (j := 1) hc dX7_mean_30 rfl rfl rfl ?_
        refine gf_X7_19 (q := 34) hc dX7_mean_31 (k_0 hK) (r_0_1 hR) rfl ?_
        refine w_callA_r (q := 37) (st := []) (args := []) (p := 6) hc hX hRm hn m_X2_measured dX7_mean_34 ml_X7_199 cf_X2_measured iv_X2_measured (k_6 hK) (C := RX2) (T := TX2) (N := 13) rfl rfl (Nat.lt_of_succ_le (Nat.le_of_ble_eq_true rfl)) rfl rfl (Nat.le_of_ble_eq_true rfl) ⟨Nat.le_of_ble_eq_true rfl, Nat.le_of_ble_eq_true rfl⟩ rfl rfl rfl (fun q_3 G hc hX hRm hn => ?_)
        have hK := hX.2.2.2.1
        have hR := hX.2.2.2.2.1
        have hN : ∀ i, Nat.blt i 6 = true → i < gnL G := fun i h => hn ▸ Nat.blt_eq.mp h
        refine w_chk (fun hrm_4 => ?_)
        have hrm : q_3.2 ≠ 0 := of_decide_eq_true hrm_4
        refine w_astore_n (q := 38) (i := 3) (lv' := [(3, .ref 69), (2, .int q_2), (0, .ref 0), (1, .int a1)]) hc dX7_mean_37 rfl (hN 3 rfl) rfl rfl ?_
        refine w_aload_n (q := 39) (i := 3) (j := 0) hc dX7_mean_38 rfl rfl rfl ?_
        refine w_callV_Ri (q := 42) (st := []) (args := []) (p := 69) hc (m_X4_sumOfDepths hK hR hrm) dX7_mean_39 ml_X7_214 cf_X4_sumOfDepths iv_X4_sumOfDepths (k_69 hK hrm) (C := RX4) (T := TX4) (N := 16) rfl rfl (Nat.lt_of_succ_le (Nat.le_of_ble_eq_true rfl)) rfl rfl (Nat.le_of_ble_eq_true rfl) ⟨Nat.le_of_ble_eq_true rfl, Nat.le_of_ble_eq_true rfl⟩ rfl (fun q_5 => ?_)
        refine w_istore (q := 44) (i := 4) (lv' := [(4, .int q_5), (3, .ref 69), (2, .int q_2), (0, .ref 0), (1, .int a1)]) hc dX7_mean_42 (hN 4 rfl) rfl rfl ?_
        refine w_iload (q := 46) (i := 4) (j := 0) hc dX7_mean_44 rfl rfl ?_
        refine w_aload_n (q := 47) (i := 3) (j := 1) hc dX7_mean_46 rfl rfl rfl ?_
        refine gf_X7_217 (q := 50) hc dX7_mean_47 (k_69 hK hrm) rfl ?_
        refine w_callS_Ri (q := 53) (st := []) (args := [.int q_5, .int (q_3.1.1 69 1)]) hc (m_X6_commonDivisor hK hR) dX7_mean_50 ml_X7_220 cf_X6_commonDivisor st_X6_commonDivisor rfl rfl (Nat.le_of_ble_eq_true rfl) ⟨Nat.le_of_ble_eq_true rfl, Nat.le_of_ble_eq_true rfl⟩ rfl (fun q_6 => ?_)
        refine w_istore (q := 55) (i := 5) (lv' := [(5, .int q_6), (4, .int q_5), (3, .ref 69), (2, .int q_2), (0, .ref 0), (1, .int a1)]) hc dX7_mean_53 (hN 5 rfl) rfl rfl ?_
        refine w_iload (q := 57) (i := 5) (j := 0) hc dX7_mean_55 rfl rfl ?_
        refine w_iconst (q := 58) hc dX7_mean_57 ci_1 rfl ?_
        refine w_icmpge (q := 61) (tgt := 67) hc dX7_mean_58 rfl rfl ?_ ?_
        · refine w_aload_n (q := 68) (i := 0) (j := 4) hc dX7_mean_67 rfl rfl rfl ?_
          refine w_iload_n (q := 69) (i := 1) (j := 5) hc dX7_mean_68 rfl rfl rfl ?_
          refine w_ifne (q := 72) (tgt := 77) hc dX7_mean_69 rfl rfl ?_ ?_
          · refine w_iload (q := 74) (i := 4) (j := 1) hc dX7_mean_72 rfl rfl ?_
            refine w_goto (tgt := 81) hc dX7_mean_74 rfl ?_
            refine w_iload (q := 83) (i := 5) (j := 0) hc dX7_mean_81 rfl rfl ?_
            refine w_idiv (q := 84) hc dX7_mean_83  rfl ?_
            refine w_callV_Wi (q := 87) (st := []) (args := [.int (q_5 / q_6)]) (p := 0) hc (m_X7_tell hK hR) dX7_mean_84 ml_X7_86 cf_X7_tell iv_X7_tell (k_0 hK) (C := RX7) (T := TX7) (N := 7) rfl rfl (Nat.lt_of_succ_le (Nat.le_of_ble_eq_true rfl)) rfl rfl (Nat.le_of_ble_eq_true rfl) ⟨Nat.le_of_ble_eq_true rfl, Nat.le_of_ble_eq_true rfl⟩ rfl (fun q_8 => ?_)
            exact w_ireturnA (v := q_8.1) hc hX dX7_mean_87 rfl rfl rfl rfl
          · refine w_aload_n (q := 78) (i := 3) (j := 2) hc dX7_mean_77 rfl rfl rfl ?_
            refine gf_X7_217 (q := 81) hc dX7_mean_78 (k_69 hK hrm) rfl ?_
            refine w_iload (q := 83) (i := 5) (j := 0) hc dX7_mean_81 rfl rfl ?_
            refine w_idiv (q := 84) hc dX7_mean_83  rfl ?_
            refine w_callV_Wi (q := 87) (st := []) (args := [.int ((q_3.1.1 69 1) / q_6)]) (p := 0) hc (m_X7_tell hK hR) dX7_mean_84 ml_X7_86 cf_X7_tell iv_X7_tell (k_0 hK) (C := RX7) (T := TX7) (N := 7) rfl rfl (Nat.lt_of_succ_le (Nat.le_of_ble_eq_true rfl)) rfl rfl (Nat.le_of_ble_eq_true rfl) ⟨Nat.le_of_ble_eq_true rfl, Nat.le_of_ble_eq_true rfl⟩ rfl (fun q_7 => ?_)
            exact w_ireturnA (v := q_7.1) hc hX dX7_mean_87 rfl rfl rfl rfl
        · refine w_aload_n (q := 62) (i := 0) (j := 4) hc dX7_mean_61 rfl rfl rfl ?_
          refine w_iconst (q := 63) hc dX7_mean_62 ci_5 rfl ?_
          refine w_callV_Wi (q := 66) (st := []) (args := [.int 5]) (p := 0) hc (m_X7_refuse hK hR) dX7_mean_63 ml_X7_56 cf_X7_refuse iv_X7_refuse (k_0 hK) (C := RX7) (T := TX7) (N := 7) rfl rfl (Nat.lt_of_succ_le (Nat.le_of_ble_eq_true rfl)) rfl rfl (Nat.le_of_ble_eq_true rfl) ⟨Nat.le_of_ble_eq_true rfl, Nat.le_of_ble_eq_true rfl⟩ rfl (fun q_9 => ?_)
          exact w_ireturnA (v := q_9.1) hc hX dX7_mean_66 rfl rfl rfl rfl
      · refine w_aload_n (q := 25) (i := 0) (j := 1) hc dX7_mean_24 rfl rfl rfl ?_
        refine w_iload_n (q := 26) (i := 2) (j := 0) hc dX7_mean_25 rfl rfl rfl ?_
        refine w_callV_Wi (q := 29) (st := []) (args := [.int q_2]) (p := 0) hc (m_X7_refuse hK hR) dX7_mean_26 ml_X7_56 cf_X7_refuse iv_X7_refuse (k_0 hK) (C := RX7) (T := TX7) (N := 7) rfl rfl (Nat.lt_of_succ_le (Nat.le_of_ble_eq_true rfl)) rfl rfl (Nat.le_of_ble_eq_true rfl) ⟨Nat.le_of_ble_eq_true rfl, Nat.le_of_ble_eq_true rfl⟩ rfl (fun q_10 => ?_)
        exact w_ireturnA (v := q_10.1) hc hX dX7_mean_29 rfl rfl rfl rfl
    · refine w_aload_n (q := 10) (i := 0) (j := 0) hc dX7_mean_9 rfl rfl rfl ?_
      refine w_iconst (q := 11) hc dX7_mean_10 ci_1 rfl ?_
      refine w_callV_Wi (q := 14) (st := []) (args := [.int 1]) (p := 0) hc (m_X7_refuse hK hR) dX7_mean_11 ml_X7_56 cf_X7_refuse iv_X7_refuse (k_0 hK) (C := RX7) (T := TX7) (N := 7) rfl rfl (Nat.lt_of_succ_le (Nat.le_of_ble_eq_true rfl)) rfl rfl (Nat.le_of_ble_eq_true rfl) ⟨Nat.le_of_ble_eq_true rfl, Nat.le_of_ble_eq_true rfl⟩ rfl (fun q_11 => ?_)
      exact w_ireturnA (v := q_11.1) hc hX dX7_mean_14 rfl rfl rfl rfl
set_option maxRecDepth 100000 in
set_option maxHeartbeats 4000000 in
theorem m_X7_nearer {l : Launch} {rm : Nat} {I : MI} {L : ML} : MFa l yX7_nearer cX7_nearer 4 (some .int) 5 128 [.ref 0] rm I L anIA meA roA (f_X7_nearer rm I L) := by
  refine mfa_of (plainFor_of_name (by decide)) (Nat.le_of_ble_eq_true rfl) ?_
  intro G ad0 hc hX hRm hn
  have hK := hX.2.2.2.1
  have hR := hX.2.2.2.2.1
  have hN : ∀ i, Nat.blt i 4 = true → i < gnL G := fun i h => hn ▸ Nat.blt_eq.mp h
  unfold f_X7_nearer
  show WW G 0 [(0, .ref 0)] [] I L _
  refine w_aload_n (q := 1) (i := 0) (j := 0) hc dX7_nearer_0 rfl rfl rfl ?_
  refine w_callV_Ri (q := 4) (st := []) (args := []) (p := 0) hc (m_X7_hurdle hK hR) dX7_nearer_1 ml_X7_196 cf_X7_hurdle iv_X7_hurdle (k_0 hK) (C := RX7) (T := TX7) (N := 7) rfl rfl (Nat.lt_of_succ_le (Nat.le_of_ble_eq_true rfl)) rfl rfl (Nat.le_of_ble_eq_true rfl) ⟨Nat.le_of_ble_eq_true rfl, Nat.le_of_ble_eq_true rfl⟩ rfl (fun q_1 => ?_)
  refine w_istore_n (q := 5) (i := 1) (lv' := [(1, .int q_1), (0, .ref 0)]) hc dX7_nearer_4 rfl (hN 1 rfl) rfl rfl ?_
  refine w_iload_n (q := 6) (i := 1) (j := 0) hc dX7_nearer_5 rfl rfl rfl ?_
  refine w_ifeq (q := 9) (tgt := 15) hc dX7_nearer_6 rfl rfl ?_ ?_
  · refine w_aload_n (q := 16) (i := 0) (j := 1) hc dX7_nearer_15 rfl rfl rfl ?_
    refine gf_X7_19 (q := 19) hc dX7_nearer_16 (k_0 hK) (r_0_1 hR) rfl ?_
    refine w_callA_r (q := 22) (st := []) (args := []) (p := 6) hc hX hRm hn m_X2_measured dX7_nearer_19 ml_X7_199 cf_X2_measured iv_X2_measured (k_6 hK) (C := RX2) (T := TX2) (N := 13) rfl rfl (Nat.lt_of_succ_le (Nat.le_of_ble_eq_true rfl)) rfl rfl (Nat.le_of_ble_eq_true rfl) ⟨Nat.le_of_ble_eq_true rfl, Nat.le_of_ble_eq_true rfl⟩ rfl rfl rfl (fun q_2 G hc hX hRm hn => ?_)
    have hK := hX.2.2.2.1
    have hR := hX.2.2.2.2.1
    have hN : ∀ i, Nat.blt i 4 = true → i < gnL G := fun i h => hn ▸ Nat.blt_eq.mp h
    refine w_chk (fun hrm_3 => ?_)
    have hrm : q_2.2 ≠ 0 := of_decide_eq_true hrm_3
    refine w_astore_n (q := 23) (i := 2) (lv' := [(2, .ref 69), (1, .int q_1), (0, .ref 0)]) hc dX7_nearer_22 rfl (hN 2 rfl) rfl rfl ?_
    refine w_aload_n (q := 24) (i := 2) (j := 0) hc dX7_nearer_23 rfl rfl rfl ?_
    refine w_aload_n (q := 25) (i := 0) (j := 2) hc dX7_nearer_24 rfl rfl rfl ?_
    refine gf_X7_38 (q := 28) hc dX7_nearer_25 (k_0 hK) rfl ?_
    refine w_callV_Ri (q := 31) (st := []) (args := [.long (q_2.1.2 0 5)]) (p := 69) hc (m_X4_find hK hR hrm) dX7_nearer_28 ml_X7_224 cf_X4_find iv_X4_find (k_69 hK hrm) (C := RX4) (T := TX4) (N := 16) rfl rfl (Nat.lt_of_succ_le (Nat.le_of_ble_eq_true rfl)) rfl rfl (Nat.le_of_ble_eq_true rfl) ⟨Nat.le_of_ble_eq_true rfl, Nat.le_of_ble_eq_true rfl⟩ rfl (fun q_4 => ?_)
    refine w_istore_n (q := 32) (i := 3) (lv' := [(3, .int q_4), (2, .ref 69), (1, .int q_1), (0, .ref 0)]) hc dX7_nearer_31 rfl (hN 3 rfl) rfl rfl ?_
    refine w_iload_n (q := 33) (i := 3) (j := 0) hc dX7_nearer_32 rfl rfl rfl ?_
    refine w_ifge (q := 36) (tgt := 45) hc dX7_nearer_33 rfl rfl ?_ ?_
    · refine w_aload_n (q := 46) (i := 0) (j := 3) hc dX7_nearer_45 rfl rfl rfl ?_
      refine w_aload_n (q := 47) (i := 2) (j := 1) hc dX7_nearer_46 rfl rfl rfl ?_
      refine w_iload_n (q := 48) (i := 3) (j := 0) hc dX7_nearer_47 rfl rfl rfl ?_
      refine w_callV_Ri (q := 51) (st := [.ref 0]) (args := [.int q_4]) (p := 69) hc (m_X4_stepsCloser hK hR hrm) dX7_nearer_48 ml_X7_227 cf_X4_stepsCloser iv_X4_stepsCloser (k_69 hK hrm) (C := RX4) (T := TX4) (N := 16) rfl rfl (Nat.lt_of_succ_le (Nat.le_of_ble_eq_true rfl)) rfl rfl (Nat.le_of_ble_eq_true rfl) ⟨Nat.le_of_ble_eq_true rfl, Nat.le_of_ble_eq_true rfl⟩ rfl (fun q_5 => ?_)
      refine w_callV_Wi (q := 54) (st := []) (args := [.int q_5]) (p := 0) hc (m_X7_tell hK hR) dX7_nearer_51 ml_X7_86 cf_X7_tell iv_X7_tell (k_0 hK) (C := RX7) (T := TX7) (N := 7) rfl rfl (Nat.lt_of_succ_le (Nat.le_of_ble_eq_true rfl)) rfl rfl (Nat.le_of_ble_eq_true rfl) ⟨Nat.le_of_ble_eq_true rfl, Nat.le_of_ble_eq_true rfl⟩ rfl (fun q_6 => ?_)
      exact w_ireturnA (v := q_6.1) hc hX dX7_nearer_54 rfl rfl rfl rfl
    · refine w_aload_n (q := 37) (i := 0) (j := 3) hc dX7_nearer_36 rfl rfl rfl ?_
      refine w_bipush (q := 39) hc dX7_nearer_37 cb_6 rfl ?_
      refine w_callV_Wi (q := 42) (st := []) (args := [.int 6]) (p := 0) hc (m_X7_refuse hK hR) dX7_nearer_39 ml_X7_56 cf_X7_refuse iv_X7_refuse (k_0 hK) (C := RX7) (T := TX7) (N := 7) rfl rfl (Nat.lt_of_succ_le (Nat.le_of_ble_eq_true rfl)) rfl rfl (Nat.le_of_ble_eq_true rfl) ⟨Nat.le_of_ble_eq_true rfl, Nat.le_of_ble_eq_true rfl⟩ rfl (fun q_7 => ?_)
      refine w_goto (tgt := 54) hc dX7_nearer_42 rfl ?_
      exact w_ireturnA (v := q_7.1) hc hX dX7_nearer_54 rfl rfl rfl rfl
  · refine w_aload_n (q := 10) (i := 0) (j := 1) hc dX7_nearer_9 rfl rfl rfl ?_
    refine w_iload_n (q := 11) (i := 1) (j := 0) hc dX7_nearer_10 rfl rfl rfl ?_
    refine w_callV_Wi (q := 14) (st := []) (args := [.int q_1]) (p := 0) hc (m_X7_refuse hK hR) dX7_nearer_11 ml_X7_56 cf_X7_refuse iv_X7_refuse (k_0 hK) (C := RX7) (T := TX7) (N := 7) rfl rfl (Nat.lt_of_succ_le (Nat.le_of_ble_eq_true rfl)) rfl rfl (Nat.le_of_ble_eq_true rfl) ⟨Nat.le_of_ble_eq_true rfl, Nat.le_of_ble_eq_true rfl⟩ rfl (fun q_8 => ?_)
    exact w_ireturnA (v := q_8.1) hc hX dX7_nearer_14 rfl rfl rfl rfl
set_option maxRecDepth 100000 in
set_option maxHeartbeats 4000000 in
theorem m_X7_solve {l : Launch} {rm : Nat} {a1 : Int32} {I : MI} {L : ML} : MFa l yX7_solve cX7_solve 2 (some .int) 6 154 [.ref 0, .int a1] rm I L anIA meA roA (f_X7_solve rm a1 I L) := by
  refine mfa_of (plainFor_of_name (by decide)) (Nat.le_of_ble_eq_true rfl) ?_
  intro G ad0 hc hX hRm hn
  have hK := hX.2.2.2.1
  have hR := hX.2.2.2.2.1
  have hN : ∀ i, Nat.blt i 2 = true → i < gnL G := fun i h => hn ▸ Nat.blt_eq.mp h
  unfold f_X7_solve
  show WW G 0 [(0, .ref 0), (1, .int a1)] [] I L _
  refine w_iload_n (q := 1) (i := 1) (j := 1) hc dX7_solve_0 rfl rfl rfl ?_
  refine w_iconst (q := 2) hc dX7_solve_1 ci_m1 rfl ?_
  refine w_icmpge (q := 5) (tgt := 11) hc dX7_solve_2 rfl rfl ?_ ?_
  · refine w_aload_n (q := 12) (i := 0) (j := 0) hc dX7_solve_11 rfl rfl rfl ?_
    refine w_aload_n (q := 13) (i := 0) (j := 0) hc dX7_solve_12 rfl rfl rfl ?_
    refine gf_X7_38 (q := 16) hc dX7_solve_13 (k_0 hK) rfl ?_
    refine w_aload_n (q := 17) (i := 0) (j := 0) hc dX7_solve_16 rfl rfl rfl ?_
    refine gf_X7_19 (q := 20) hc dX7_solve_17 (k_0 hK) (r_0_1 hR) rfl ?_
    refine gf_X7_95 (q := 23) hc dX7_solve_20 (k_6 hK) rfl ?_
    refine w_callS_Rl (q := 26) (st := [.ref 0]) (args := [.long (L 0 5), .int (I 6 0)]) hc (m_X6_invert hK hR) dX7_solve_23 ml_X7_128 cf_X6_invert st_X6_invert rfl rfl (Nat.le_of_ble_eq_true rfl) ⟨Nat.le_of_ble_eq_true rfl, Nat.le_of_ble_eq_true rfl⟩ rfl (fun q_1 => ?_)
    refine w_iload_n (q := 27) (i := 1) (j := 1) hc dX7_solve_26 rfl rfl rfl ?_
    refine w_callA_i (q := 30) (st := []) (args := [.long q_1, .int a1]) (p := 0) hc hX hRm hn m_X7_tellWay dX7_solve_27 ml_X7_193 cf_X7_tellWay iv_X7_tellWay (k_0 hK) (C := RX7) (T := TX7) (N := 7) rfl rfl (Nat.lt_of_succ_le (Nat.le_of_ble_eq_true rfl)) rfl rfl (Nat.le_of_ble_eq_true rfl) ⟨Nat.le_of_ble_eq_true rfl, Nat.le_of_ble_eq_true rfl⟩ rfl rfl rfl (fun q_2 G hc hX hRm hn => ?_)
    have hK := hX.2.2.2.1
    have hR := hX.2.2.2.2.1
    have hN : ∀ i, Nat.blt i 2 = true → i < gnL G := fun i h => hn ▸ Nat.blt_eq.mp h
    exact w_ireturnA (v := q_2.1.1) hc hX dX7_solve_30 rfl rfl rfl rfl
  · refine w_aload_n (q := 6) (i := 0) (j := 0) hc dX7_solve_5 rfl rfl rfl ?_
    refine w_iconst (q := 7) hc dX7_solve_6 ci_1 rfl ?_
    refine w_callV_Wi (q := 10) (st := []) (args := [.int 1]) (p := 0) hc (m_X7_refuse hK hR) dX7_solve_7 ml_X7_56 cf_X7_refuse iv_X7_refuse (k_0 hK) (C := RX7) (T := TX7) (N := 7) rfl rfl (Nat.lt_of_succ_le (Nat.le_of_ble_eq_true rfl)) rfl rfl (Nat.le_of_ble_eq_true rfl) ⟨Nat.le_of_ble_eq_true rfl, Nat.le_of_ble_eq_true rfl⟩ rfl (fun q_3 => ?_)
    exact w_ireturnA (v := q_3.1) hc hX dX7_solve_10 rfl rfl rfl rfl
set_option maxRecDepth 100000 in
set_option maxHeartbeats 4000000 in
theorem m_X7_centre {l : Launch} {rm : Nat} {a1 : Int32} {I : MI} {L : ML} : MFa l yX7_centre cX7_centre 4 (some .int) 5 131 [.ref 0, .int a1] rm I L anIA meA roA (f_X7_centre rm a1 I L) := by
  refine mfa_of (plainFor_of_name (by decide)) (Nat.le_of_ble_eq_true rfl) ?_
  intro G ad0 hc hX hRm hn
  have hK := hX.2.2.2.1
  have hR := hX.2.2.2.2.1
  have hN : ∀ i, Nat.blt i 4 = true → i < gnL G := fun i h => hn ▸ Nat.blt_eq.mp h
  unfold f_X7_centre
  show WW G 0 [(0, .ref 0), (1, .int a1)] [] I L _
  refine w_iload_n (q := 1) (i := 1) (j := 1) hc dX7_centre_0 rfl rfl rfl ?_
  refine w_iconst (q := 2) hc dX7_centre_1 ci_m1 rfl ?_
  refine w_icmpge (q := 5) (tgt := 11) hc dX7_centre_2 rfl rfl ?_ ?_
  · refine w_aload_n (q := 12) (i := 0) (j := 0) hc dX7_centre_11 rfl rfl rfl ?_
    refine w_callV_Ri (q := 15) (st := []) (args := []) (p := 0) hc (m_X7_hurdle hK hR) dX7_centre_12 ml_X7_196 cf_X7_hurdle iv_X7_hurdle (k_0 hK) (C := RX7) (T := TX7) (N := 7) rfl rfl (Nat.lt_of_succ_le (Nat.le_of_ble_eq_true rfl)) rfl rfl (Nat.le_of_ble_eq_true rfl) ⟨Nat.le_of_ble_eq_true rfl, Nat.le_of_ble_eq_true rfl⟩ rfl (fun q_1 => ?_)
    refine w_istore_n (q := 16) (i := 2) (lv' := [(2, .int q_1), (0, .ref 0), (1, .int a1)]) hc dX7_centre_15 rfl (hN 2 rfl) rfl rfl ?_
    refine w_iload_n (q := 17) (i := 2) (j := 0) hc dX7_centre_16 rfl rfl rfl ?_
    refine w_ifeq (q := 20) (tgt := 26) hc dX7_centre_17 rfl rfl ?_ ?_
    · refine w_iload_n (q := 27) (i := 1) (j := 2) hc dX7_centre_26 rfl rfl rfl ?_
      refine w_iconst (q := 28) hc dX7_centre_27 ci_m1 rfl ?_
      refine w_icmpne (q := 31) (tgt := 43) hc dX7_centre_28 rfl rfl ?_ ?_
      · refine w_aload_n (q := 32) (i := 0) (j := 1) hc dX7_centre_31 rfl rfl rfl ?_
        refine w_aload_n (q := 33) (i := 0) (j := 1) hc dX7_centre_32 rfl rfl rfl ?_
        refine gf_X7_19 (q := 36) hc dX7_centre_33 (k_0 hK) (r_0_1 hR) rfl ?_
        refine w_callA_i (q := 39) (st := [.ref 0]) (args := []) (p := 6) hc hX hRm hn m_X2_countCentral dX7_centre_36 ml_X7_230 cf_X2_countCentral iv_X2_countCentral (k_6 hK) (C := RX2) (T := TX2) (N := 13) rfl rfl (Nat.lt_of_succ_le (Nat.le_of_ble_eq_true rfl)) rfl rfl (Nat.le_of_ble_eq_true rfl) ⟨Nat.le_of_ble_eq_true rfl, Nat.le_of_ble_eq_true rfl⟩ rfl rfl rfl (fun q_6 G hc hX hRm hn => ?_)
        have hK := hX.2.2.2.1
        have hR := hX.2.2.2.2.1
        have hN : ∀ i, Nat.blt i 4 = true → i < gnL G := fun i h => hn ▸ Nat.blt_eq.mp h
        refine w_callV_Wi (q := 42) (st := []) (args := [.int q_6.1.1]) (p := 0) hc (m_X7_tell hK hR) dX7_centre_39 ml_X7_86 cf_X7_tell iv_X7_tell (k_0 hK) (C := RX7) (T := TX7) (N := 7) rfl rfl (Nat.lt_of_succ_le (Nat.le_of_ble_eq_true rfl)) rfl rfl (Nat.le_of_ble_eq_true rfl) ⟨Nat.le_of_ble_eq_true rfl, Nat.le_of_ble_eq_true rfl⟩ rfl (fun q_7 => ?_)
        exact w_ireturnA (v := q_7.1) hc hX dX7_centre_42 rfl rfl rfl rfl
      · refine w_aload_n (q := 44) (i := 0) (j := 1) hc dX7_centre_43 rfl rfl rfl ?_
        refine gf_X7_19 (q := 47) hc dX7_centre_44 (k_0 hK) (r_0_1 hR) rfl ?_
        refine w_iload_n (q := 48) (i := 1) (j := 2) hc dX7_centre_47 rfl rfl rfl ?_
        refine w_callA_i (q := 51) (st := []) (args := [.int a1]) (p := 6) hc hX hRm hn m_X2_centralPlace dX7_centre_48 ml_X7_233 cf_X2_centralPlace iv_X2_centralPlace (k_6 hK) (C := RX2) (T := TX2) (N := 13) rfl rfl (Nat.lt_of_succ_le (Nat.le_of_ble_eq_true rfl)) rfl rfl (Nat.le_of_ble_eq_true rfl) ⟨Nat.le_of_ble_eq_true rfl, Nat.le_of_ble_eq_true rfl⟩ rfl rfl rfl (fun q_2 G hc hX hRm hn => ?_)
        have hK := hX.2.2.2.1
        have hR := hX.2.2.2.2.1
        have hN : ∀ i, Nat.blt i 4 = true → i < gnL G := fun i h => hn ▸ Nat.blt_eq.mp h
        refine w_istore_nB (q := 52) (i := 3) (lv' := fun v3_3 => [(3, .int v3_3), (2, .int q_1), (0, .ref 0), (1, .int a1)]) hc dX7_centre_51 rfl (hN 3 rfl) (fun _ => rfl) rfl (fun v3_3 => ?_)
        refine w_iload_n (q := 53) (i := 3) (j := 0) hc dX7_centre_52 rfl rfl rfl ?_
        refine w_ifge (q := 56) (tgt := 64) hc dX7_centre_53 rfl rfl ?_ ?_
        · refine w_aload_n (q := 65) (i := 0) (j := 2) hc dX7_centre_64 rfl rfl rfl ?_
          refine w_iload_n (q := 66) (i := 3) (j := 0) hc dX7_centre_65 rfl rfl rfl ?_
          refine w_callV_Wi (q := 69) (st := []) (args := [.int v3_3]) (p := 0) hc (m_X7_tell hK hR) dX7_centre_66 ml_X7_86 cf_X7_tell iv_X7_tell (k_0 hK) (C := RX7) (T := TX7) (N := 7) rfl rfl (Nat.lt_of_succ_le (Nat.le_of_ble_eq_true rfl)) rfl rfl (Nat.le_of_ble_eq_true rfl) ⟨Nat.le_of_ble_eq_true rfl, Nat.le_of_ble_eq_true rfl⟩ rfl (fun q_4 => ?_)
          exact w_ireturnA (v := q_4.1) hc hX dX7_centre_69 rfl rfl rfl rfl
        · refine w_aload_n (q := 57) (i := 0) (j := 2) hc dX7_centre_56 rfl rfl rfl ?_
          refine w_iconst (q := 58) hc dX7_centre_57 ci_5 rfl ?_
          refine w_callV_Wi (q := 61) (st := []) (args := [.int 5]) (p := 0) hc (m_X7_refuse hK hR) dX7_centre_58 ml_X7_56 cf_X7_refuse iv_X7_refuse (k_0 hK) (C := RX7) (T := TX7) (N := 7) rfl rfl (Nat.lt_of_succ_le (Nat.le_of_ble_eq_true rfl)) rfl rfl (Nat.le_of_ble_eq_true rfl) ⟨Nat.le_of_ble_eq_true rfl, Nat.le_of_ble_eq_true rfl⟩ rfl (fun q_5 => ?_)
          refine w_goto (tgt := 69) hc dX7_centre_61 rfl ?_
          exact w_ireturnA (v := q_5.1) hc hX dX7_centre_69 rfl rfl rfl rfl
    · refine w_aload_n (q := 21) (i := 0) (j := 1) hc dX7_centre_20 rfl rfl rfl ?_
      refine w_iload_n (q := 22) (i := 2) (j := 0) hc dX7_centre_21 rfl rfl rfl ?_
      refine w_callV_Wi (q := 25) (st := []) (args := [.int q_1]) (p := 0) hc (m_X7_refuse hK hR) dX7_centre_22 ml_X7_56 cf_X7_refuse iv_X7_refuse (k_0 hK) (C := RX7) (T := TX7) (N := 7) rfl rfl (Nat.lt_of_succ_le (Nat.le_of_ble_eq_true rfl)) rfl rfl (Nat.le_of_ble_eq_true rfl) ⟨Nat.le_of_ble_eq_true rfl, Nat.le_of_ble_eq_true rfl⟩ rfl (fun q_8 => ?_)
      exact w_ireturnA (v := q_8.1) hc hX dX7_centre_25 rfl rfl rfl rfl
  · refine w_aload_n (q := 6) (i := 0) (j := 0) hc dX7_centre_5 rfl rfl rfl ?_
    refine w_iconst (q := 7) hc dX7_centre_6 ci_1 rfl ?_
    refine w_callV_Wi (q := 10) (st := []) (args := [.int 1]) (p := 0) hc (m_X7_refuse hK hR) dX7_centre_7 ml_X7_56 cf_X7_refuse iv_X7_refuse (k_0 hK) (C := RX7) (T := TX7) (N := 7) rfl rfl (Nat.lt_of_succ_le (Nat.le_of_ble_eq_true rfl)) rfl rfl (Nat.le_of_ble_eq_true rfl) ⟨Nat.le_of_ble_eq_true rfl, Nat.le_of_ble_eq_true rfl⟩ rfl (fun q_9 => ?_)
    exact w_ireturnA (v := q_9.1) hc hX dX7_centre_10 rfl rfl rfl rfl
set_option maxRecDepth 100000 in
set_option maxHeartbeats 4000000 in
theorem m_X7_classes {l : Launch} {rm : Nat} {I : MI} {L : ML} : MFa l yX7_classes cX7_classes 2 (some .int) 5 128 [.ref 0] rm I L anIA meA roA (f_X7_classes rm I L) := by
  refine mfa_of (plainFor_of_name (by decide)) (Nat.le_of_ble_eq_true rfl) ?_
  intro G ad0 hc hX hRm hn
  have hK := hX.2.2.2.1
  have hR := hX.2.2.2.2.1
  have hN : ∀ i, Nat.blt i 2 = true → i < gnL G := fun i h => hn ▸ Nat.blt_eq.mp h
  unfold f_X7_classes
  show WW G 0 [(0, .ref 0)] [] I L _
  refine w_aload_n (q := 1) (i := 0) (j := 0) hc dX7_classes_0 rfl rfl rfl ?_
  refine w_callV_Ri (q := 4) (st := []) (args := []) (p := 0) hc (m_X7_hurdle hK hR) dX7_classes_1 ml_X7_196 cf_X7_hurdle iv_X7_hurdle (k_0 hK) (C := RX7) (T := TX7) (N := 7) rfl rfl (Nat.lt_of_succ_le (Nat.le_of_ble_eq_true rfl)) rfl rfl (Nat.le_of_ble_eq_true rfl) ⟨Nat.le_of_ble_eq_true rfl, Nat.le_of_ble_eq_true rfl⟩ rfl (fun q_1 => ?_)
  refine w_istore_n (q := 5) (i := 1) (lv' := [(1, .int q_1), (0, .ref 0)]) hc dX7_classes_4 rfl (hN 1 rfl) rfl rfl ?_
  refine w_iload_n (q := 6) (i := 1) (j := 0) hc dX7_classes_5 rfl rfl rfl ?_
  refine w_ifeq (q := 9) (tgt := 15) hc dX7_classes_6 rfl rfl ?_ ?_
  · refine w_aload_n (q := 16) (i := 0) (j := 1) hc dX7_classes_15 rfl rfl rfl ?_
    refine w_aload_n (q := 17) (i := 0) (j := 1) hc dX7_classes_16 rfl rfl rfl ?_
    refine gf_X7_19 (q := 20) hc dX7_classes_17 (k_0 hK) (r_0_1 hR) rfl ?_
    refine w_callA_r (q := 23) (st := [.ref 0]) (args := []) (p := 6) hc hX hRm hn m_X2_sorted dX7_classes_20 ml_X7_236 cf_X2_sorted iv_X2_sorted (k_6 hK) (C := RX2) (T := TX2) (N := 13) rfl rfl (Nat.lt_of_succ_le (Nat.le_of_ble_eq_true rfl)) rfl rfl (Nat.le_of_ble_eq_true rfl) ⟨Nat.le_of_ble_eq_true rfl, Nat.le_of_ble_eq_true rfl⟩ rfl rfl rfl (fun q_2 G hc hX hRm hn => ?_)
    have hK := hX.2.2.2.1
    have hR := hX.2.2.2.2.1
    have hN : ∀ i, Nat.blt i 2 = true → i < gnL G := fun i h => hn ▸ Nat.blt_eq.mp h
    refine w_chk (fun hrm_3 => ?_)
    have hrm : q_2.2 ≠ 0 := of_decide_eq_true hrm_3
    refine gf_X7_239 (q := 26) hc dX7_classes_23 (k_69 hK hrm) rfl ?_
    refine w_callV_Wi (q := 29) (st := []) (args := [.int (q_2.1.1 69 3)]) (p := 0) hc (m_X7_tell hK hR) dX7_classes_26 ml_X7_86 cf_X7_tell iv_X7_tell (k_0 hK) (C := RX7) (T := TX7) (N := 7) rfl rfl (Nat.lt_of_succ_le (Nat.le_of_ble_eq_true rfl)) rfl rfl (Nat.le_of_ble_eq_true rfl) ⟨Nat.le_of_ble_eq_true rfl, Nat.le_of_ble_eq_true rfl⟩ rfl (fun q_4 => ?_)
    exact w_ireturnA (v := q_4.1) hc hX dX7_classes_29 rfl rfl rfl rfl
  · refine w_aload_n (q := 10) (i := 0) (j := 1) hc dX7_classes_9 rfl rfl rfl ?_
    refine w_iload_n (q := 11) (i := 1) (j := 0) hc dX7_classes_10 rfl rfl rfl ?_
    refine w_callV_Wi (q := 14) (st := []) (args := [.int q_1]) (p := 0) hc (m_X7_refuse hK hR) dX7_classes_11 ml_X7_56 cf_X7_refuse iv_X7_refuse (k_0 hK) (C := RX7) (T := TX7) (N := 7) rfl rfl (Nat.lt_of_succ_le (Nat.le_of_ble_eq_true rfl)) rfl rfl (Nat.le_of_ble_eq_true rfl) ⟨Nat.le_of_ble_eq_true rfl, Nat.le_of_ble_eq_true rfl⟩ rfl (fun q_5 => ?_)
    exact w_ireturnA (v := q_5.1) hc hX dX7_classes_14 rfl rfl rfl rfl
set_option maxRecDepth 100000 in
set_option maxHeartbeats 4000000 in
theorem m_X7_alike {l : Launch} {rm : Nat} {a1 : Int64} {I : MI} {L : ML} : MFa l yX7_alike cX7_alike 8 (some .int) 5 128 [.ref 0, .long a1] rm I L anIA meA roA (f_X7_alike rm a1 I L) := by
  refine mfa_of (plainFor_of_name (by decide)) (Nat.le_of_ble_eq_true rfl) ?_
  intro G ad0 hc hX hRm hn
  have hK := hX.2.2.2.1
  have hR := hX.2.2.2.2.1
  have hN : ∀ i, Nat.blt i 8 = true → i < gnL G := fun i h => hn ▸ Nat.blt_eq.mp h
  unfold f_X7_alike
  show WW G 0 [(0, .ref 0), (1, .long a1)] [] I L _
  refine w_aload_n (q := 1) (i := 0) (j := 0) hc dX7_alike_0 rfl rfl rfl ?_
  refine w_lload_n (q := 2) (i := 1) (j := 1) hc dX7_alike_1 rfl rfl rfl ?_
  refine w_callV_Rl (q := 5) (st := []) (args := [.long a1]) (p := 0) hc (m_X7_read hK hR) dX7_alike_2 ml_X7_114 cf_X7_read iv_X7_read (k_0 hK) (C := RX7) (T := TX7) (N := 7) rfl rfl (Nat.lt_of_succ_le (Nat.le_of_ble_eq_true rfl)) rfl rfl (Nat.le_of_ble_eq_true rfl) ⟨Nat.le_of_ble_eq_true rfl, Nat.le_of_ble_eq_true rfl⟩ rfl (fun q_1 => ?_)
  refine w_lstore_n (q := 6) (i := 3) (lv' := [(3, .long q_1), (0, .ref 0), (1, .long a1)]) hc dX7_alike_5 rfl (hN 4 rfl) rfl rfl ?_
  refine w_lload_n (q := 7) (i := 3) (j := 0) hc dX7_alike_6 rfl rfl rfl ?_
  refine w_lconst (q := 8) hc dX7_alike_7 cl_0 rfl ?_
  refine w_lcmp (q := 9) hc dX7_alike_8  rfl ?_
  refine w_ifge (q := 12) (tgt := 18) hc dX7_alike_9 rfl rfl ?_ ?_
  · refine w_aload_n (q := 19) (i := 0) (j := 1) hc dX7_alike_18 rfl rfl rfl ?_
    refine w_callV_Ri (q := 22) (st := []) (args := []) (p := 0) hc (m_X7_hurdle hK hR) dX7_alike_19 ml_X7_196 cf_X7_hurdle iv_X7_hurdle (k_0 hK) (C := RX7) (T := TX7) (N := 7) rfl rfl (Nat.lt_of_succ_le (Nat.le_of_ble_eq_true rfl)) rfl rfl (Nat.le_of_ble_eq_true rfl) ⟨Nat.le_of_ble_eq_true rfl, Nat.le_of_ble_eq_true rfl⟩ rfl (fun q_2 => ?_)
    refine w_istore (q := 24) (i := 5) (lv' := [(5, .int q_2), (3, .long q_1), (0, .ref 0), (1, .long a1)]) hc dX7_alike_22 (hN 5 rfl) rfl rfl ?_
    refine w_iload (q := 26) (i := 5) (j := 0) hc dX7_alike_24 rfl rfl ?_
    refine w_ifeq (q := 29) (tgt := 36) hc dX7_alike_26 rfl rfl ?_ ?_
    · refine w_aload_n (q := 37) (i := 0) (j := 2) hc dX7_alike_36 rfl rfl rfl ?_
      refine gf_X7_19 (q := 40) hc dX7_alike_37 (k_0 hK) (r_0_1 hR) rfl ?_
      refine w_callA_r (q := 43) (st := []) (args := []) (p := 6) hc hX hRm hn m_X2_sorted dX7_alike_40 ml_X7_236 cf_X2_sorted iv_X2_sorted (k_6 hK) (C := RX2) (T := TX2) (N := 13) rfl rfl (Nat.lt_of_succ_le (Nat.le_of_ble_eq_true rfl)) rfl rfl (Nat.le_of_ble_eq_true rfl) ⟨Nat.le_of_ble_eq_true rfl, Nat.le_of_ble_eq_true rfl⟩ rfl rfl rfl (fun q_3 G hc hX hRm hn => ?_)
      have hK := hX.2.2.2.1
      have hR := hX.2.2.2.2.1
      have hN : ∀ i, Nat.blt i 8 = true → i < gnL G := fun i h => hn ▸ Nat.blt_eq.mp h
      refine w_chk (fun hrm_4 => ?_)
      have hrm : q_3.2 ≠ 0 := of_decide_eq_true hrm_4
      refine w_astore (q := 45) (i := 6) (lv' := [(6, .ref 69), (5, .int q_2), (3, .long q_1), (0, .ref 0), (1, .long a1)]) hc dX7_alike_43 (hN 6 rfl) rfl rfl ?_
      refine w_aload (q := 47) (i := 6) (j := 0) hc dX7_alike_45 rfl rfl ?_
      refine w_lload_n (q := 48) (i := 3) (j := 2) hc dX7_alike_47 rfl rfl rfl ?_
      refine w_callV_Ri (q := 51) (st := []) (args := [.long q_1]) (p := 69) hc (m_X4_find hK hR hrm) dX7_alike_48 ml_X7_224 cf_X4_find iv_X4_find (k_69 hK hrm) (C := RX4) (T := TX4) (N := 16) rfl rfl (Nat.lt_of_succ_le (Nat.le_of_ble_eq_true rfl)) rfl rfl (Nat.le_of_ble_eq_true rfl) ⟨Nat.le_of_ble_eq_true rfl, Nat.le_of_ble_eq_true rfl⟩ rfl (fun q_5 => ?_)
      refine w_istore (q := 53) (i := 7) (lv' := [(7, .int q_5), (6, .ref 69), (5, .int q_2), (3, .long q_1), (0, .ref 0), (1, .long a1)]) hc dX7_alike_51 (hN 7 rfl) rfl rfl ?_
      refine w_iload (q := 55) (i := 7) (j := 0) hc dX7_alike_53 rfl rfl ?_
      refine w_ifge (q := 58) (tgt := 67) hc dX7_alike_55 rfl rfl ?_ ?_
      · refine w_aload_n (q := 68) (i := 0) (j := 4) hc dX7_alike_67 rfl rfl rfl ?_
        refine w_aload (q := 70) (i := 6) (j := 1) hc dX7_alike_68 rfl rfl ?_
        refine w_iload (q := 72) (i := 7) (j := 0) hc dX7_alike_70 rfl rfl ?_
        refine w_callV_Ri (q := 75) (st := [.ref 0]) (args := [.int q_5]) (p := 69) hc (m_X4_countKin hK hR hrm) dX7_alike_72 ml_X7_242 cf_X4_countKin iv_X4_countKin (k_69 hK hrm) (C := RX4) (T := TX4) (N := 16) rfl rfl (Nat.lt_of_succ_le (Nat.le_of_ble_eq_true rfl)) rfl rfl (Nat.le_of_ble_eq_true rfl) ⟨Nat.le_of_ble_eq_true rfl, Nat.le_of_ble_eq_true rfl⟩ rfl (fun q_6 => ?_)
        refine w_callV_Wi (q := 78) (st := []) (args := [.int q_6]) (p := 0) hc (m_X7_tell hK hR) dX7_alike_75 ml_X7_86 cf_X7_tell iv_X7_tell (k_0 hK) (C := RX7) (T := TX7) (N := 7) rfl rfl (Nat.lt_of_succ_le (Nat.le_of_ble_eq_true rfl)) rfl rfl (Nat.le_of_ble_eq_true rfl) ⟨Nat.le_of_ble_eq_true rfl, Nat.le_of_ble_eq_true rfl⟩ rfl (fun q_7 => ?_)
        exact w_ireturnA (v := q_7.1) hc hX dX7_alike_78 rfl rfl rfl rfl
      · refine w_aload_n (q := 59) (i := 0) (j := 4) hc dX7_alike_58 rfl rfl rfl ?_
        refine w_bipush (q := 61) hc dX7_alike_59 cb_6 rfl ?_
        refine w_callV_Wi (q := 64) (st := []) (args := [.int 6]) (p := 0) hc (m_X7_refuse hK hR) dX7_alike_61 ml_X7_56 cf_X7_refuse iv_X7_refuse (k_0 hK) (C := RX7) (T := TX7) (N := 7) rfl rfl (Nat.lt_of_succ_le (Nat.le_of_ble_eq_true rfl)) rfl rfl (Nat.le_of_ble_eq_true rfl) ⟨Nat.le_of_ble_eq_true rfl, Nat.le_of_ble_eq_true rfl⟩ rfl (fun q_8 => ?_)
        refine w_goto (tgt := 78) hc dX7_alike_64 rfl ?_
        exact w_ireturnA (v := q_8.1) hc hX dX7_alike_78 rfl rfl rfl rfl
    · refine w_aload_n (q := 30) (i := 0) (j := 2) hc dX7_alike_29 rfl rfl rfl ?_
      refine w_iload (q := 32) (i := 5) (j := 0) hc dX7_alike_30 rfl rfl ?_
      refine w_callV_Wi (q := 35) (st := []) (args := [.int q_2]) (p := 0) hc (m_X7_refuse hK hR) dX7_alike_32 ml_X7_56 cf_X7_refuse iv_X7_refuse (k_0 hK) (C := RX7) (T := TX7) (N := 7) rfl rfl (Nat.lt_of_succ_le (Nat.le_of_ble_eq_true rfl)) rfl rfl (Nat.le_of_ble_eq_true rfl) ⟨Nat.le_of_ble_eq_true rfl, Nat.le_of_ble_eq_true rfl⟩ rfl (fun q_9 => ?_)
      exact w_ireturnA (v := q_9.1) hc hX dX7_alike_35 rfl rfl rfl rfl
  · refine w_aload_n (q := 13) (i := 0) (j := 1) hc dX7_alike_12 rfl rfl rfl ?_
    refine w_iconst (q := 14) hc dX7_alike_13 ci_1 rfl ?_
    refine w_callV_Wi (q := 17) (st := []) (args := [.int 1]) (p := 0) hc (m_X7_refuse hK hR) dX7_alike_14 ml_X7_56 cf_X7_refuse iv_X7_refuse (k_0 hK) (C := RX7) (T := TX7) (N := 7) rfl rfl (Nat.lt_of_succ_le (Nat.le_of_ble_eq_true rfl)) rfl rfl (Nat.le_of_ble_eq_true rfl) ⟨Nat.le_of_ble_eq_true rfl, Nat.le_of_ble_eq_true rfl⟩ rfl (fun q_10 => ?_)
    exact w_ireturnA (v := q_10.1) hc hX dX7_alike_17 rfl rfl rfl rfl
set_option maxRecDepth 100000 in
set_option maxHeartbeats 4000000 in
theorem m_X7_derived {l : Launch} {K : KT} {R : MR} {rm : Nat} {a1 : Int32} {I : MI} {L : ML} (hK0 : K = lK rm) (hR0 : R = lR rm) : MFg l yX7_derived cX7_derived 3 (some .int) 7 187 [.ref 0, .int a1] K R I L anIW meW (f_X7_derived a1 I L) := by
  refine mf_of (plainFor_of_name (by decide)) (Nat.le_of_ble_eq_true rfl) ?_
  intro G hc _ hK1 hR1 hn hq
  have hK := hK1.trans hK0
  have hR := hR1.trans hR0
  have hN : ∀ i, Nat.blt i 3 = true → i < gnL G := fun i h => hn ▸ Nat.blt_eq.mp h
  unfold f_X7_derived
  show WW G 0 [(0, .ref 0), (1, .int a1)] [] I L _
  refine w_iload_n (q := 1) (i := 1) (j := 1) hc dX7_derived_0 rfl rfl rfl ?_
  refine w_ifge (q := 4) (tgt := 10) hc dX7_derived_1 rfl rfl ?_ ?_
  · refine w_aload_n (q := 11) (i := 0) (j := 0) hc dX7_derived_10 rfl rfl rfl ?_
    refine gf_X7_19 (q := 14) hc dX7_derived_11 (k_0 hK) (r_0_1 hR) rfl ?_
    refine gf_X7_95 (q := 17) hc dX7_derived_14 (k_6 hK) rfl ?_
    refine w_ifne (q := 20) (tgt := 26) hc dX7_derived_17 rfl rfl ?_ ?_
    · refine w_aload_n (q := 21) (i := 0) (j := 0) hc dX7_derived_20 rfl rfl rfl ?_
      refine w_iconst (q := 22) hc dX7_derived_21 ci_5 rfl ?_
      refine w_callV_Wi (q := 25) (st := []) (args := [.int 5]) (p := 0) hc (m_X7_refuse hK hR) dX7_derived_22 ml_X7_56 cf_X7_refuse iv_X7_refuse (k_0 hK) (C := RX7) (T := TX7) (N := 7) rfl rfl (Nat.lt_of_succ_le (Nat.le_of_ble_eq_true rfl)) rfl rfl (Nat.le_of_ble_eq_true rfl) ⟨Nat.le_of_ble_eq_true rfl, Nat.le_of_ble_eq_true rfl⟩ rfl (fun q_5 => ?_)
      exact w_ireturn (v := q_5.1) hc hq dX7_derived_25 rfl rfl rfl
    · refine w_aload_n (q := 27) (i := 0) (j := 0) hc dX7_derived_26 rfl rfl rfl ?_
      refine gf_X7_19 (q := 30) hc dX7_derived_27 (k_0 hK) (r_0_1 hR) rfl ?_
      refine w_iconst (q := 31) hc dX7_derived_30 ci_0 rfl ?_
      refine w_callV_Wr (q := 34) (st := []) (args := [.int 0]) (p := 6) hc (m_X2_descentByF hK hR) dX7_derived_31 ml_X7_245 cf_X2_descentBy iv_X2_descentBy (k_6 hK) (C := RX2) (T := TX2) (N := 13) rfl rfl (Nat.lt_of_succ_le (Nat.le_of_ble_eq_true rfl)) rfl rfl (Nat.le_of_ble_eq_true rfl) ⟨Nat.le_of_ble_eq_true rfl, Nat.le_of_ble_eq_true rfl⟩ rfl (fun q_1 => ?_)
      refine w_iload_n (q := 35) (i := 1) (j := 1) hc dX7_derived_34 rfl rfl rfl ?_
      refine w_callV_Ri (q := 38) (st := []) (args := [.int a1]) (p := 30) hc (m_X1_sizeAt hK hR (de_30)) dX7_derived_35 ml_X7_249 cf_X1_sizeAt iv_X1_sizeAt (k_30 hK) (C := RX1) (T := TX1) (N := 5) rfl rfl (Nat.lt_of_succ_le (Nat.le_of_ble_eq_true rfl)) rfl rfl (Nat.le_of_ble_eq_true rfl) ⟨Nat.le_of_ble_eq_true rfl, Nat.le_of_ble_eq_true rfl⟩ rfl (fun q_2 => ?_)
      refine w_istore_n (q := 39) (i := 2) (lv' := [(2, .int q_2), (0, .ref 0), (1, .int a1)]) hc dX7_derived_38 rfl (hN 2 rfl) rfl rfl ?_
      refine w_iload_n (q := 40) (i := 2) (j := 0) hc dX7_derived_39 rfl rfl rfl ?_
      refine w_ifne (q := 43) (tgt := 51) hc dX7_derived_40 rfl rfl ?_ ?_
      · refine w_aload_n (q := 44) (i := 0) (j := 1) hc dX7_derived_43 rfl rfl rfl ?_
        refine w_iconst (q := 45) hc dX7_derived_44 ci_5 rfl ?_
        refine w_callV_Wi (q := 48) (st := []) (args := [.int 5]) (p := 0) hc (m_X7_refuse hK hR) dX7_derived_45 ml_X7_56 cf_X7_refuse iv_X7_refuse (k_0 hK) (C := RX7) (T := TX7) (N := 7) rfl rfl (Nat.lt_of_succ_le (Nat.le_of_ble_eq_true rfl)) rfl rfl (Nat.le_of_ble_eq_true rfl) ⟨Nat.le_of_ble_eq_true rfl, Nat.le_of_ble_eq_true rfl⟩ rfl (fun q_4 => ?_)
        refine w_goto (tgt := 56) hc dX7_derived_48 rfl ?_
        exact w_ireturn (v := q_4.1) hc hq dX7_derived_56 rfl rfl rfl
      · refine w_aload_n (q := 52) (i := 0) (j := 1) hc dX7_derived_51 rfl rfl rfl ?_
        refine w_iload_n (q := 53) (i := 2) (j := 0) hc dX7_derived_52 rfl rfl rfl ?_
        refine w_callV_Wi (q := 56) (st := []) (args := [.int q_2]) (p := 0) hc (m_X7_tell hK hR) dX7_derived_53 ml_X7_86 cf_X7_tell iv_X7_tell (k_0 hK) (C := RX7) (T := TX7) (N := 7) rfl rfl (Nat.lt_of_succ_le (Nat.le_of_ble_eq_true rfl)) rfl rfl (Nat.le_of_ble_eq_true rfl) ⟨Nat.le_of_ble_eq_true rfl, Nat.le_of_ble_eq_true rfl⟩ rfl (fun q_3 => ?_)
        exact w_ireturn (v := q_3.1) hc hq dX7_derived_56 rfl rfl rfl
  · refine w_aload_n (q := 5) (i := 0) (j := 0) hc dX7_derived_4 rfl rfl rfl ?_
    refine w_iconst (q := 6) hc dX7_derived_5 ci_1 rfl ?_
    refine w_callV_Wi (q := 9) (st := []) (args := [.int 1]) (p := 0) hc (m_X7_refuse hK hR) dX7_derived_6 ml_X7_56 cf_X7_refuse iv_X7_refuse (k_0 hK) (C := RX7) (T := TX7) (N := 7) rfl rfl (Nat.lt_of_succ_le (Nat.le_of_ble_eq_true rfl)) rfl rfl (Nat.le_of_ble_eq_true rfl) ⟨Nat.le_of_ble_eq_true rfl, Nat.le_of_ble_eq_true rfl⟩ rfl (fun q_6 => ?_)
    exact w_ireturn (v := q_6.1) hc hq dX7_derived_9 rfl rfl rfl
set_option maxRecDepth 100000 in
set_option maxHeartbeats 4000000 in
theorem m_X7_has {l : Launch} {K : KT} {R : MR} {rm : Nat} {a1 : Int32} {I : MI} {L : ML} (hK0 : K = lK rm) (hR0 : R = lR rm) : MFg l yX7_has cX7_has 3 (some .int) 7 187 [.ref 0, .int a1] K R I L anIW meW (f_X7_has a1 I L) := by
  refine mf_of (plainFor_of_name (by decide)) (Nat.le_of_ble_eq_true rfl) ?_
  intro G hc _ hK1 hR1 hn hq
  have hK := hK1.trans hK0
  have hR := hR1.trans hR0
  have hN : ∀ i, Nat.blt i 3 = true → i < gnL G := fun i h => hn ▸ Nat.blt_eq.mp h
  unfold f_X7_has
  show WW G 0 [(0, .ref 0), (1, .int a1)] [] I L _
  refine w_iload_n (q := 1) (i := 1) (j := 1) hc dX7_has_0 rfl rfl rfl ?_
  refine w_iflt (q := 4) (tgt := 9) hc dX7_has_1 rfl rfl ?_ ?_
  · refine w_aload_n (q := 10) (i := 0) (j := 0) hc dX7_has_9 rfl rfl rfl ?_
    refine w_iconst (q := 11) hc dX7_has_10 ci_1 rfl ?_
    refine w_callV_Wi (q := 14) (st := []) (args := [.int 1]) (p := 0) hc (m_X7_refuse hK hR) dX7_has_11 ml_X7_56 cf_X7_refuse iv_X7_refuse (k_0 hK) (C := RX7) (T := TX7) (N := 7) rfl rfl (Nat.lt_of_succ_le (Nat.le_of_ble_eq_true rfl)) rfl rfl (Nat.le_of_ble_eq_true rfl) ⟨Nat.le_of_ble_eq_true rfl, Nat.le_of_ble_eq_true rfl⟩ rfl (fun q_1 => ?_)
    exact w_ireturn (v := q_1.1) hc hq dX7_has_14 rfl rfl rfl
  · refine w_iload_n (q := 5) (i := 1) (j := 1) hc dX7_has_4 rfl rfl rfl ?_
    refine w_iconst (q := 6) hc dX7_has_5 ci_3 rfl ?_
    refine w_icmple (q := 9) (tgt := 15) hc dX7_has_6 rfl rfl ?_ ?_
    · refine w_aload_n (q := 16) (i := 0) (j := 0) hc dX7_has_15 rfl rfl rfl ?_
      refine gf_X7_19 (q := 19) hc dX7_has_16 (k_0 hK) (r_0_1 hR) rfl ?_
      refine gf_X7_95 (q := 22) hc dX7_has_19 (k_6 hK) rfl ?_
      refine w_ifne (q := 25) (tgt := 31) hc dX7_has_22 rfl rfl ?_ ?_
      · refine w_aload_n (q := 26) (i := 0) (j := 0) hc dX7_has_25 rfl rfl rfl ?_
        refine w_iconst (q := 27) hc dX7_has_26 ci_5 rfl ?_
        refine w_callV_Wi (q := 30) (st := []) (args := [.int 5]) (p := 0) hc (m_X7_refuse hK hR) dX7_has_27 ml_X7_56 cf_X7_refuse iv_X7_refuse (k_0 hK) (C := RX7) (T := TX7) (N := 7) rfl rfl (Nat.lt_of_succ_le (Nat.le_of_ble_eq_true rfl)) rfl rfl (Nat.le_of_ble_eq_true rfl) ⟨Nat.le_of_ble_eq_true rfl, Nat.le_of_ble_eq_true rfl⟩ rfl (fun q_19 => ?_)
        exact w_ireturn (v := q_19.1) hc hq dX7_has_30 rfl rfl rfl
      · refine w_iload_n (q := 32) (i := 1) (j := 1) hc dX7_has_31 rfl rfl rfl ?_
        refine w_ifne (q := 35) (tgt := 46) hc dX7_has_32 rfl rfl ?_ ?_
        · refine w_aload_n (q := 36) (i := 0) (j := 0) hc dX7_has_35 rfl rfl rfl ?_
          refine gf_X7_19 (q := 39) hc dX7_has_36 (k_0 hK) (r_0_1 hR) rfl ?_
          refine w_callV_Rz (q := 42) (st := []) (args := []) (p := 6) hc (m_X2_movesCommute hK hR) dX7_has_39 ml_X7_254 cf_X2_movesCommute iv_X2_movesCommute (k_6 hK) (C := RX2) (T := TX2) (N := 13) rfl rfl (Nat.lt_of_succ_le (Nat.le_of_ble_eq_true rfl)) rfl rfl (Nat.le_of_ble_eq_true rfl) ⟨Nat.le_of_ble_eq_true rfl, Nat.le_of_ble_eq_true rfl⟩ rfl (fun q_15 => ?_)
          refine w_istore_nB (q := 43) (i := 2) (lv' := fun v2_16 => [(2, .int v2_16), (0, .ref 0), (1, .int a1)]) hc dX7_has_42 rfl (hN 2 rfl) (fun _ => rfl) rfl (fun v2_16 => ?_)
          refine w_goto (tgt := 90) hc dX7_has_43 rfl ?_
          refine w_aload_n (q := 91) (i := 0) (j := 1) hc dX7_has_90 rfl rfl rfl ?_
          refine w_iload_n (q := 92) (i := 2) (j := 0) hc dX7_has_91 rfl rfl rfl ?_
          refine w_ifeq (q := 95) (tgt := 99) hc dX7_has_92 rfl rfl ?_ ?_
          · refine w_iconst (q := 100) hc dX7_has_99 ci_0 rfl ?_
            refine w_callV_Wi (q := 103) (st := []) (args := [.int 0]) (p := 0) hc (m_X7_tell hK hR) dX7_has_100 ml_X7_86 cf_X7_tell iv_X7_tell (k_0 hK) (C := RX7) (T := TX7) (N := 7) rfl rfl (Nat.lt_of_succ_le (Nat.le_of_ble_eq_true rfl)) rfl rfl (Nat.le_of_ble_eq_true rfl) ⟨Nat.le_of_ble_eq_true rfl, Nat.le_of_ble_eq_true rfl⟩ rfl (fun q_17 => ?_)
            exact w_ireturn (v := q_17.1) hc hq dX7_has_103 rfl rfl rfl
          · refine w_iconst (q := 96) hc dX7_has_95 ci_1 rfl ?_
            refine w_goto (tgt := 100) hc dX7_has_96 rfl ?_
            refine w_callV_Wi (q := 103) (st := []) (args := [.int 1]) (p := 0) hc (m_X7_tell hK hR) dX7_has_100 ml_X7_86 cf_X7_tell iv_X7_tell (k_0 hK) (C := RX7) (T := TX7) (N := 7) rfl rfl (Nat.lt_of_succ_le (Nat.le_of_ble_eq_true rfl)) rfl rfl (Nat.le_of_ble_eq_true rfl) ⟨Nat.le_of_ble_eq_true rfl, Nat.le_of_ble_eq_true rfl⟩ rfl (fun q_18 => ?_)
            exact w_ireturn (v := q_18.1) hc hq dX7_has_103 rfl rfl rfl
        · refine w_iload_n (q := 47) (i := 1) (j := 1) hc dX7_has_46 rfl rfl rfl ?_
          refine w_iconst (q := 48) hc dX7_has_47 ci_1 rfl ?_
          refine w_icmpne (q := 51) (tgt := 66) hc dX7_has_48 rfl rfl ?_ ?_
          · refine w_aload_n (q := 52) (i := 0) (j := 0) hc dX7_has_51 rfl rfl rfl ?_
            refine gf_X7_19 (q := 55) hc dX7_has_52 (k_0 hK) (r_0_1 hR) rfl ?_
            refine w_iconst (q := 56) hc dX7_has_55 ci_0 rfl ?_
            refine w_callV_Wr (q := 59) (st := []) (args := [.int 0]) (p := 6) hc (m_X2_descentByF hK hR) dX7_has_56 ml_X7_245 cf_X2_descentBy iv_X2_descentBy (k_6 hK) (C := RX2) (T := TX2) (N := 13) rfl rfl (Nat.lt_of_succ_le (Nat.le_of_ble_eq_true rfl)) rfl rfl (Nat.le_of_ble_eq_true rfl) ⟨Nat.le_of_ble_eq_true rfl, Nat.le_of_ble_eq_true rfl⟩ rfl (fun q_10 => ?_)
            refine w_callV_Rz (q := 62) (st := []) (args := []) (p := 30) hc (m_X1_endsAtHome hK hR (de_30)) dX7_has_59 ml_X7_258 cf_X1_endsAtHome iv_X1_endsAtHome (k_30 hK) (C := RX1) (T := TX1) (N := 5) rfl rfl (Nat.lt_of_succ_le (Nat.le_of_ble_eq_true rfl)) rfl rfl (Nat.le_of_ble_eq_true rfl) ⟨Nat.le_of_ble_eq_true rfl, Nat.le_of_ble_eq_true rfl⟩ rfl (fun q_11 => ?_)
            refine w_istore_nB (q := 63) (i := 2) (lv' := fun v2_12 => [(2, .int v2_12), (0, .ref 0), (1, .int a1)]) hc dX7_has_62 rfl (hN 2 rfl) (fun _ => rfl) rfl (fun v2_12 => ?_)
            refine w_goto (tgt := 90) hc dX7_has_63 rfl ?_
            refine w_aload_n (q := 91) (i := 0) (j := 1) hc dX7_has_90 rfl rfl rfl ?_
            refine w_iload_n (q := 92) (i := 2) (j := 0) hc dX7_has_91 rfl rfl rfl ?_
            refine w_ifeq (q := 95) (tgt := 99) hc dX7_has_92 rfl rfl ?_ ?_
            · refine w_iconst (q := 100) hc dX7_has_99 ci_0 rfl ?_
              refine w_callV_Wi (q := 103) (st := []) (args := [.int 0]) (p := 0) hc (m_X7_tell hK hR) dX7_has_100 ml_X7_86 cf_X7_tell iv_X7_tell (k_0 hK) (C := RX7) (T := TX7) (N := 7) rfl rfl (Nat.lt_of_succ_le (Nat.le_of_ble_eq_true rfl)) rfl rfl (Nat.le_of_ble_eq_true rfl) ⟨Nat.le_of_ble_eq_true rfl, Nat.le_of_ble_eq_true rfl⟩ rfl (fun q_13 => ?_)
              exact w_ireturn (v := q_13.1) hc hq dX7_has_103 rfl rfl rfl
            · refine w_iconst (q := 96) hc dX7_has_95 ci_1 rfl ?_
              refine w_goto (tgt := 100) hc dX7_has_96 rfl ?_
              refine w_callV_Wi (q := 103) (st := []) (args := [.int 1]) (p := 0) hc (m_X7_tell hK hR) dX7_has_100 ml_X7_86 cf_X7_tell iv_X7_tell (k_0 hK) (C := RX7) (T := TX7) (N := 7) rfl rfl (Nat.lt_of_succ_le (Nat.le_of_ble_eq_true rfl)) rfl rfl (Nat.le_of_ble_eq_true rfl) ⟨Nat.le_of_ble_eq_true rfl, Nat.le_of_ble_eq_true rfl⟩ rfl (fun q_14 => ?_)
              exact w_ireturn (v := q_14.1) hc hq dX7_has_103 rfl rfl rfl
          · refine w_iload_n (q := 67) (i := 1) (j := 1) hc dX7_has_66 rfl rfl rfl ?_
            refine w_iconst (q := 68) hc dX7_has_67 ci_2 rfl ?_
            refine w_icmpne (q := 71) (tgt := 82) hc dX7_has_68 rfl rfl ?_ ?_
            · refine w_aload_n (q := 72) (i := 0) (j := 0) hc dX7_has_71 rfl rfl rfl ?_
              refine gf_X7_19 (q := 75) hc dX7_has_72 (k_0 hK) (r_0_1 hR) rfl ?_
              refine w_callV_Rz (q := 78) (st := []) (args := []) (p := 6) hc (m_X2_movesAreEven hK hR) dX7_has_75 ml_X7_261 cf_X2_movesAreEven iv_X2_movesAreEven (k_6 hK) (C := RX2) (T := TX2) (N := 13) rfl rfl (Nat.lt_of_succ_le (Nat.le_of_ble_eq_true rfl)) rfl rfl (Nat.le_of_ble_eq_true rfl) ⟨Nat.le_of_ble_eq_true rfl, Nat.le_of_ble_eq_true rfl⟩ rfl (fun q_6 => ?_)
              refine w_istore_nB (q := 79) (i := 2) (lv' := fun v2_7 => [(2, .int v2_7), (0, .ref 0), (1, .int a1)]) hc dX7_has_78 rfl (hN 2 rfl) (fun _ => rfl) rfl (fun v2_7 => ?_)
              refine w_goto (tgt := 90) hc dX7_has_79 rfl ?_
              refine w_aload_n (q := 91) (i := 0) (j := 1) hc dX7_has_90 rfl rfl rfl ?_
              refine w_iload_n (q := 92) (i := 2) (j := 0) hc dX7_has_91 rfl rfl rfl ?_
              refine w_ifeq (q := 95) (tgt := 99) hc dX7_has_92 rfl rfl ?_ ?_
              · refine w_iconst (q := 100) hc dX7_has_99 ci_0 rfl ?_
                refine w_callV_Wi (q := 103) (st := []) (args := [.int 0]) (p := 0) hc (m_X7_tell hK hR) dX7_has_100 ml_X7_86 cf_X7_tell iv_X7_tell (k_0 hK) (C := RX7) (T := TX7) (N := 7) rfl rfl (Nat.lt_of_succ_le (Nat.le_of_ble_eq_true rfl)) rfl rfl (Nat.le_of_ble_eq_true rfl) ⟨Nat.le_of_ble_eq_true rfl, Nat.le_of_ble_eq_true rfl⟩ rfl (fun q_8 => ?_)
                exact w_ireturn (v := q_8.1) hc hq dX7_has_103 rfl rfl rfl
              · refine w_iconst (q := 96) hc dX7_has_95 ci_1 rfl ?_
                refine w_goto (tgt := 100) hc dX7_has_96 rfl ?_
                refine w_callV_Wi (q := 103) (st := []) (args := [.int 1]) (p := 0) hc (m_X7_tell hK hR) dX7_has_100 ml_X7_86 cf_X7_tell iv_X7_tell (k_0 hK) (C := RX7) (T := TX7) (N := 7) rfl rfl (Nat.lt_of_succ_le (Nat.le_of_ble_eq_true rfl)) rfl rfl (Nat.le_of_ble_eq_true rfl) ⟨Nat.le_of_ble_eq_true rfl, Nat.le_of_ble_eq_true rfl⟩ rfl (fun q_9 => ?_)
                exact w_ireturn (v := q_9.1) hc hq dX7_has_103 rfl rfl rfl
            · refine w_aload_n (q := 83) (i := 0) (j := 0) hc dX7_has_82 rfl rfl rfl ?_
              refine gf_X7_19 (q := 86) hc dX7_has_83 (k_0 hK) (r_0_1 hR) rfl ?_
              refine w_callV_Wz (q := 89) (st := []) (args := []) (p := 6) hc (m_X2_isPrimitive hK hR) dX7_has_86 ml_X7_264 cf_X2_isPrimitive iv_X2_isPrimitive (k_6 hK) (C := RX2) (T := TX2) (N := 13) rfl rfl (Nat.lt_of_succ_le (Nat.le_of_ble_eq_true rfl)) rfl rfl (Nat.le_of_ble_eq_true rfl) ⟨Nat.le_of_ble_eq_true rfl, Nat.le_of_ble_eq_true rfl⟩ rfl (fun q_2 => ?_)
              refine w_istore_nB (q := 90) (i := 2) (lv' := fun v2_3 => [(2, .int v2_3), (0, .ref 0), (1, .int a1)]) hc dX7_has_89 rfl (hN 2 rfl) (fun _ => rfl) rfl (fun v2_3 => ?_)
              refine w_aload_n (q := 91) (i := 0) (j := 1) hc dX7_has_90 rfl rfl rfl ?_
              refine w_iload_n (q := 92) (i := 2) (j := 0) hc dX7_has_91 rfl rfl rfl ?_
              refine w_ifeq (q := 95) (tgt := 99) hc dX7_has_92 rfl rfl ?_ ?_
              · refine w_iconst (q := 100) hc dX7_has_99 ci_0 rfl ?_
                refine w_callV_Wi (q := 103) (st := []) (args := [.int 0]) (p := 0) hc (m_X7_tell hK hR) dX7_has_100 ml_X7_86 cf_X7_tell iv_X7_tell (k_0 hK) (C := RX7) (T := TX7) (N := 7) rfl rfl (Nat.lt_of_succ_le (Nat.le_of_ble_eq_true rfl)) rfl rfl (Nat.le_of_ble_eq_true rfl) ⟨Nat.le_of_ble_eq_true rfl, Nat.le_of_ble_eq_true rfl⟩ rfl (fun q_4 => ?_)
                exact w_ireturn (v := q_4.1) hc hq dX7_has_103 rfl rfl rfl
              · refine w_iconst (q := 96) hc dX7_has_95 ci_1 rfl ?_
                refine w_goto (tgt := 100) hc dX7_has_96 rfl ?_
                refine w_callV_Wi (q := 103) (st := []) (args := [.int 1]) (p := 0) hc (m_X7_tell hK hR) dX7_has_100 ml_X7_86 cf_X7_tell iv_X7_tell (k_0 hK) (C := RX7) (T := TX7) (N := 7) rfl rfl (Nat.lt_of_succ_le (Nat.le_of_ble_eq_true rfl)) rfl rfl (Nat.le_of_ble_eq_true rfl) ⟨Nat.le_of_ble_eq_true rfl, Nat.le_of_ble_eq_true rfl⟩ rfl (fun q_5 => ?_)
                exact w_ireturn (v := q_5.1) hc hq dX7_has_103 rfl rfl rfl
    · refine w_aload_n (q := 10) (i := 0) (j := 0) hc dX7_has_9 rfl rfl rfl ?_
      refine w_iconst (q := 11) hc dX7_has_10 ci_1 rfl ?_
      refine w_callV_Wi (q := 14) (st := []) (args := [.int 1]) (p := 0) hc (m_X7_refuse hK hR) dX7_has_11 ml_X7_56 cf_X7_refuse iv_X7_refuse (k_0 hK) (C := RX7) (T := TX7) (N := 7) rfl rfl (Nat.lt_of_succ_le (Nat.le_of_ble_eq_true rfl)) rfl rfl (Nat.le_of_ble_eq_true rfl) ⟨Nat.le_of_ble_eq_true rfl, Nat.le_of_ble_eq_true rfl⟩ rfl (fun q_20 => ?_)
      exact w_ireturn (v := q_20.1) hc hq dX7_has_14 rfl rfl rfl
set_option maxRecDepth 100000 in
set_option maxHeartbeats 4000000 in
theorem m_X7_commutator {l : Launch} {K : KT} {R : MR} {rm : Nat} {a1 : Int64} {a3 : Int64} {I : MI} {L : ML} (hK0 : K = lK rm) (hR0 : R = lR rm) : MFg l yX7_commutator cX7_commutator 9 (some .long) 3 69 [.ref 0, .long a1, .long a3] K R I L anLW meW (f_X7_commutator a1 a3 I L) := by
  refine mf_of (plainFor_of_name (by decide)) (Nat.le_of_ble_eq_true rfl) ?_
  intro G hc _ hK1 hR1 hn hq
  have hK := hK1.trans hK0
  have hR := hR1.trans hR0
  have hN : ∀ i, Nat.blt i 9 = true → i < gnL G := fun i h => hn ▸ Nat.blt_eq.mp h
  unfold f_X7_commutator
  show WW G 0 [(0, .ref 0), (1, .long a1), (3, .long a3)] [] I L _
  refine w_aload_n (q := 1) (i := 0) (j := 0) hc dX7_commutator_0 rfl rfl rfl ?_
  refine w_lload_n (q := 2) (i := 1) (j := 1) hc dX7_commutator_1 rfl rfl rfl ?_
  refine w_callV_Rl (q := 5) (st := []) (args := [.long a1]) (p := 0) hc (m_X7_read hK hR) dX7_commutator_2 ml_X7_114 cf_X7_read iv_X7_read (k_0 hK) (C := RX7) (T := TX7) (N := 7) rfl rfl (Nat.lt_of_succ_le (Nat.le_of_ble_eq_true rfl)) rfl rfl (Nat.le_of_ble_eq_true rfl) ⟨Nat.le_of_ble_eq_true rfl, Nat.le_of_ble_eq_true rfl⟩ rfl (fun q_1 => ?_)
  refine w_lstore (q := 7) (i := 5) (lv' := [(5, .long q_1), (0, .ref 0), (1, .long a1), (3, .long a3)]) hc dX7_commutator_5 (hN 6 rfl) rfl rfl ?_
  refine w_aload_n (q := 8) (i := 0) (j := 1) hc dX7_commutator_7 rfl rfl rfl ?_
  refine w_lload_n (q := 9) (i := 3) (j := 3) hc dX7_commutator_8 rfl rfl rfl ?_
  refine w_callV_Rl (q := 12) (st := []) (args := [.long a3]) (p := 0) hc (m_X7_read hK hR) dX7_commutator_9 ml_X7_114 cf_X7_read iv_X7_read (k_0 hK) (C := RX7) (T := TX7) (N := 7) rfl rfl (Nat.lt_of_succ_le (Nat.le_of_ble_eq_true rfl)) rfl rfl (Nat.le_of_ble_eq_true rfl) ⟨Nat.le_of_ble_eq_true rfl, Nat.le_of_ble_eq_true rfl⟩ rfl (fun q_2 => ?_)
  refine w_lstore (q := 14) (i := 7) (lv' := [(7, .long q_2), (5, .long q_1), (0, .ref 0), (1, .long a1), (3, .long a3)]) hc dX7_commutator_12 (hN 8 rfl) rfl rfl ?_
  refine w_lload (q := 16) (i := 5) (j := 1) hc dX7_commutator_14 rfl rfl ?_
  refine w_lconst (q := 17) hc dX7_commutator_16 cl_0 rfl ?_
  refine w_lcmp (q := 18) hc dX7_commutator_17  rfl ?_
  refine w_iflt (q := 21) (tgt := 28) hc dX7_commutator_18 rfl rfl ?_ ?_
  · refine w_aload_n (q := 29) (i := 0) (j := 2) hc dX7_commutator_28 rfl rfl rfl ?_
    refine w_iconst (q := 30) hc dX7_commutator_29 ci_1 rfl ?_
    refine w_callV_Wi (q := 33) (st := []) (args := [.int 1]) (p := 0) hc (m_X7_refuse hK hR) dX7_commutator_30 ml_X7_56 cf_X7_refuse iv_X7_refuse (k_0 hK) (C := RX7) (T := TX7) (N := 7) rfl rfl (Nat.lt_of_succ_le (Nat.le_of_ble_eq_true rfl)) rfl rfl (Nat.le_of_ble_eq_true rfl) ⟨Nat.le_of_ble_eq_true rfl, Nat.le_of_ble_eq_true rfl⟩ rfl (fun q_3 => ?_)
    refine w_i2l (q := 34) hc dX7_commutator_33  rfl ?_
    exact w_lreturn hc hq dX7_commutator_34 rfl rfl
  · refine w_lload (q := 23) (i := 7) (j := 0) hc dX7_commutator_21 rfl rfl ?_
    refine w_lconst (q := 24) hc dX7_commutator_23 cl_0 rfl ?_
    refine w_lcmp (q := 25) hc dX7_commutator_24  rfl ?_
    refine w_ifge (q := 28) (tgt := 35) hc dX7_commutator_25 rfl rfl ?_ ?_
    · refine w_aload_n (q := 36) (i := 0) (j := 2) hc dX7_commutator_35 rfl rfl rfl ?_
      refine w_lload (q := 38) (i := 5) (j := 1) hc dX7_commutator_36 rfl rfl ?_
      refine w_lload (q := 40) (i := 7) (j := 0) hc dX7_commutator_38 rfl rfl ?_
      refine w_aload_n (q := 41) (i := 0) (j := 2) hc dX7_commutator_40 rfl rfl rfl ?_
      refine gf_X7_19 (q := 44) hc dX7_commutator_41 (k_0 hK) (r_0_1 hR) rfl ?_
      refine gf_X7_95 (q := 47) hc dX7_commutator_44 (k_6 hK) rfl ?_
      refine w_callS_Rl (q := 50) (st := [.ref 0]) (args := [.long q_1, .long q_2, .int (I 6 0)]) hc (m_X6_commutatorOf hK hR) dX7_commutator_47 ml_X7_267 cf_X6_commutatorOf st_X6_commutatorOf rfl rfl (Nat.le_of_ble_eq_true rfl) ⟨Nat.le_of_ble_eq_true rfl, Nat.le_of_ble_eq_true rfl⟩ rfl (fun q_4 => ?_)
      refine w_callV_Wl (q := 53) (st := []) (args := [.long q_4]) (p := 0) hc (m_X7_tellTurn hK hR) dX7_commutator_50 ml_X7_110 cf_X7_tellTurn iv_X7_tellTurn (k_0 hK) (C := RX7) (T := TX7) (N := 7) rfl rfl (Nat.lt_of_succ_le (Nat.le_of_ble_eq_true rfl)) rfl rfl (Nat.le_of_ble_eq_true rfl) ⟨Nat.le_of_ble_eq_true rfl, Nat.le_of_ble_eq_true rfl⟩ rfl (fun q_5 => ?_)
      exact w_lreturn hc hq dX7_commutator_53 rfl rfl
    · refine w_aload_n (q := 29) (i := 0) (j := 2) hc dX7_commutator_28 rfl rfl rfl ?_
      refine w_iconst (q := 30) hc dX7_commutator_29 ci_1 rfl ?_
      refine w_callV_Wi (q := 33) (st := []) (args := [.int 1]) (p := 0) hc (m_X7_refuse hK hR) dX7_commutator_30 ml_X7_56 cf_X7_refuse iv_X7_refuse (k_0 hK) (C := RX7) (T := TX7) (N := 7) rfl rfl (Nat.lt_of_succ_le (Nat.le_of_ble_eq_true rfl)) rfl rfl (Nat.le_of_ble_eq_true rfl) ⟨Nat.le_of_ble_eq_true rfl, Nat.le_of_ble_eq_true rfl⟩ rfl (fun q_6 => ?_)
      refine w_i2l (q := 34) hc dX7_commutator_33  rfl ?_
      exact w_lreturn hc hq dX7_commutator_34 rfl rfl
set_option maxRecDepth 100000 in
set_option maxHeartbeats 4000000 in
theorem m_X7_turned {l : Launch} {K : KT} {R : MR} {rm : Nat} {a1 : Int64} {a3 : Int64} {I : MI} {L : ML} (hK0 : K = lK rm) (hR0 : R = lR rm) : MFg l yX7_turned cX7_turned 9 (some .long) 3 69 [.ref 0, .long a1, .long a3] K R I L anLW meW (f_X7_turned a1 a3 I L) := by
  refine mf_of (plainFor_of_name (by decide)) (Nat.le_of_ble_eq_true rfl) ?_
  intro G hc _ hK1 hR1 hn hq
  have hK := hK1.trans hK0
  have hR := hR1.trans hR0
  have hN : ∀ i, Nat.blt i 9 = true → i < gnL G := fun i h => hn ▸ Nat.blt_eq.mp h
  unfold f_X7_turned
  show WW G 0 [(0, .ref 0), (1, .long a1), (3, .long a3)] [] I L _
  refine w_aload_n (q := 1) (i := 0) (j := 0) hc dX7_turned_0 rfl rfl rfl ?_
  refine w_lload_n (q := 2) (i := 1) (j := 1) hc dX7_turned_1 rfl rfl rfl ?_
  refine w_callV_Rl (q := 5) (st := []) (args := [.long a1]) (p := 0) hc (m_X7_read hK hR) dX7_turned_2 ml_X7_114 cf_X7_read iv_X7_read (k_0 hK) (C := RX7) (T := TX7) (N := 7) rfl rfl (Nat.lt_of_succ_le (Nat.le_of_ble_eq_true rfl)) rfl rfl (Nat.le_of_ble_eq_true rfl) ⟨Nat.le_of_ble_eq_true rfl, Nat.le_of_ble_eq_true rfl⟩ rfl (fun q_1 => ?_)
  refine w_lstore (q := 7) (i := 5) (lv' := [(5, .long q_1), (0, .ref 0), (1, .long a1), (3, .long a3)]) hc dX7_turned_5 (hN 6 rfl) rfl rfl ?_
  refine w_aload_n (q := 8) (i := 0) (j := 1) hc dX7_turned_7 rfl rfl rfl ?_
  refine w_lload_n (q := 9) (i := 3) (j := 3) hc dX7_turned_8 rfl rfl rfl ?_
  refine w_callV_Rl (q := 12) (st := []) (args := [.long a3]) (p := 0) hc (m_X7_read hK hR) dX7_turned_9 ml_X7_114 cf_X7_read iv_X7_read (k_0 hK) (C := RX7) (T := TX7) (N := 7) rfl rfl (Nat.lt_of_succ_le (Nat.le_of_ble_eq_true rfl)) rfl rfl (Nat.le_of_ble_eq_true rfl) ⟨Nat.le_of_ble_eq_true rfl, Nat.le_of_ble_eq_true rfl⟩ rfl (fun q_2 => ?_)
  refine w_lstore (q := 14) (i := 7) (lv' := [(7, .long q_2), (5, .long q_1), (0, .ref 0), (1, .long a1), (3, .long a3)]) hc dX7_turned_12 (hN 8 rfl) rfl rfl ?_
  refine w_lload (q := 16) (i := 5) (j := 1) hc dX7_turned_14 rfl rfl ?_
  refine w_lconst (q := 17) hc dX7_turned_16 cl_0 rfl ?_
  refine w_lcmp (q := 18) hc dX7_turned_17  rfl ?_
  refine w_iflt (q := 21) (tgt := 28) hc dX7_turned_18 rfl rfl ?_ ?_
  · refine w_aload_n (q := 29) (i := 0) (j := 2) hc dX7_turned_28 rfl rfl rfl ?_
    refine w_iconst (q := 30) hc dX7_turned_29 ci_1 rfl ?_
    refine w_callV_Wi (q := 33) (st := []) (args := [.int 1]) (p := 0) hc (m_X7_refuse hK hR) dX7_turned_30 ml_X7_56 cf_X7_refuse iv_X7_refuse (k_0 hK) (C := RX7) (T := TX7) (N := 7) rfl rfl (Nat.lt_of_succ_le (Nat.le_of_ble_eq_true rfl)) rfl rfl (Nat.le_of_ble_eq_true rfl) ⟨Nat.le_of_ble_eq_true rfl, Nat.le_of_ble_eq_true rfl⟩ rfl (fun q_3 => ?_)
    refine w_i2l (q := 34) hc dX7_turned_33  rfl ?_
    exact w_lreturn hc hq dX7_turned_34 rfl rfl
  · refine w_lload (q := 23) (i := 7) (j := 0) hc dX7_turned_21 rfl rfl ?_
    refine w_lconst (q := 24) hc dX7_turned_23 cl_0 rfl ?_
    refine w_lcmp (q := 25) hc dX7_turned_24  rfl ?_
    refine w_ifge (q := 28) (tgt := 35) hc dX7_turned_25 rfl rfl ?_ ?_
    · refine w_aload_n (q := 36) (i := 0) (j := 2) hc dX7_turned_35 rfl rfl rfl ?_
      refine w_lload (q := 38) (i := 5) (j := 1) hc dX7_turned_36 rfl rfl ?_
      refine w_lload (q := 40) (i := 7) (j := 0) hc dX7_turned_38 rfl rfl ?_
      refine w_aload_n (q := 41) (i := 0) (j := 2) hc dX7_turned_40 rfl rfl rfl ?_
      refine gf_X7_19 (q := 44) hc dX7_turned_41 (k_0 hK) (r_0_1 hR) rfl ?_
      refine gf_X7_95 (q := 47) hc dX7_turned_44 (k_6 hK) rfl ?_
      refine w_callS_Rl (q := 50) (st := [.ref 0]) (args := [.long q_1, .long q_2, .int (I 6 0)]) hc (m_X6_conjugate hK hR) dX7_turned_47 ml_X7_270 cf_X6_conjugate st_X6_conjugate rfl rfl (Nat.le_of_ble_eq_true rfl) ⟨Nat.le_of_ble_eq_true rfl, Nat.le_of_ble_eq_true rfl⟩ rfl (fun q_4 => ?_)
      refine w_callV_Wl (q := 53) (st := []) (args := [.long q_4]) (p := 0) hc (m_X7_tellTurn hK hR) dX7_turned_50 ml_X7_110 cf_X7_tellTurn iv_X7_tellTurn (k_0 hK) (C := RX7) (T := TX7) (N := 7) rfl rfl (Nat.lt_of_succ_le (Nat.le_of_ble_eq_true rfl)) rfl rfl (Nat.le_of_ble_eq_true rfl) ⟨Nat.le_of_ble_eq_true rfl, Nat.le_of_ble_eq_true rfl⟩ rfl (fun q_5 => ?_)
      exact w_lreturn hc hq dX7_turned_53 rfl rfl
    · refine w_aload_n (q := 29) (i := 0) (j := 2) hc dX7_turned_28 rfl rfl rfl ?_
      refine w_iconst (q := 30) hc dX7_turned_29 ci_1 rfl ?_
      refine w_callV_Wi (q := 33) (st := []) (args := [.int 1]) (p := 0) hc (m_X7_refuse hK hR) dX7_turned_30 ml_X7_56 cf_X7_refuse iv_X7_refuse (k_0 hK) (C := RX7) (T := TX7) (N := 7) rfl rfl (Nat.lt_of_succ_le (Nat.le_of_ble_eq_true rfl)) rfl rfl (Nat.le_of_ble_eq_true rfl) ⟨Nat.le_of_ble_eq_true rfl, Nat.le_of_ble_eq_true rfl⟩ rfl (fun q_6 => ?_)
      refine w_i2l (q := 34) hc dX7_turned_33  rfl ?_
      exact w_lreturn hc hq dX7_turned_34 rfl rfl
set_option maxRecDepth 100000 in
set_option maxHeartbeats 4000000 in
theorem m_X7_same {l : Launch} {rm : Nat} {a1 : Int64} {a3 : Int64} {I : MI} {L : ML} : MFa l yX7_same cX7_same 13 (some .int) 5 128 [.ref 0, .long a1, .long a3] rm I L anIA meA roA (f_X7_same rm a1 a3 I L) := by
  refine mfa_of (plainFor_of_name (by decide)) (Nat.le_of_ble_eq_true rfl) ?_
  intro G ad0 hc hX hRm hn
  have hK := hX.2.2.2.1
  have hR := hX.2.2.2.2.1
  have hN : ∀ i, Nat.blt i 13 = true → i < gnL G := fun i h => hn ▸ Nat.blt_eq.mp h
  unfold f_X7_same
  show WW G 0 [(0, .ref 0), (1, .long a1), (3, .long a3)] [] I L _
  refine w_aload_n (q := 1) (i := 0) (j := 0) hc dX7_same_0 rfl rfl rfl ?_
  refine w_lload_n (q := 2) (i := 1) (j := 1) hc dX7_same_1 rfl rfl rfl ?_
  refine w_callV_Rl (q := 5) (st := []) (args := [.long a1]) (p := 0) hc (m_X7_read hK hR) dX7_same_2 ml_X7_114 cf_X7_read iv_X7_read (k_0 hK) (C := RX7) (T := TX7) (N := 7) rfl rfl (Nat.lt_of_succ_le (Nat.le_of_ble_eq_true rfl)) rfl rfl (Nat.le_of_ble_eq_true rfl) ⟨Nat.le_of_ble_eq_true rfl, Nat.le_of_ble_eq_true rfl⟩ rfl (fun q_1 => ?_)
  refine w_lstore (q := 7) (i := 5) (lv' := [(5, .long q_1), (0, .ref 0), (1, .long a1), (3, .long a3)]) hc dX7_same_5 (hN 6 rfl) rfl rfl ?_
  refine w_aload_n (q := 8) (i := 0) (j := 1) hc dX7_same_7 rfl rfl rfl ?_
  refine w_lload_n (q := 9) (i := 3) (j := 3) hc dX7_same_8 rfl rfl rfl ?_
  refine w_callV_Rl (q := 12) (st := []) (args := [.long a3]) (p := 0) hc (m_X7_read hK hR) dX7_same_9 ml_X7_114 cf_X7_read iv_X7_read (k_0 hK) (C := RX7) (T := TX7) (N := 7) rfl rfl (Nat.lt_of_succ_le (Nat.le_of_ble_eq_true rfl)) rfl rfl (Nat.le_of_ble_eq_true rfl) ⟨Nat.le_of_ble_eq_true rfl, Nat.le_of_ble_eq_true rfl⟩ rfl (fun q_2 => ?_)
  refine w_lstore (q := 14) (i := 7) (lv' := [(7, .long q_2), (5, .long q_1), (0, .ref 0), (1, .long a1), (3, .long a3)]) hc dX7_same_12 (hN 8 rfl) rfl rfl ?_
  refine w_lload (q := 16) (i := 5) (j := 1) hc dX7_same_14 rfl rfl ?_
  refine w_lconst (q := 17) hc dX7_same_16 cl_0 rfl ?_
  refine w_lcmp (q := 18) hc dX7_same_17  rfl ?_
  refine w_iflt (q := 21) (tgt := 28) hc dX7_same_18 rfl rfl ?_ ?_
  · refine w_aload_n (q := 29) (i := 0) (j := 2) hc dX7_same_28 rfl rfl rfl ?_
    refine w_iconst (q := 30) hc dX7_same_29 ci_1 rfl ?_
    refine w_callV_Wi (q := 33) (st := []) (args := [.int 1]) (p := 0) hc (m_X7_refuse hK hR) dX7_same_30 ml_X7_56 cf_X7_refuse iv_X7_refuse (k_0 hK) (C := RX7) (T := TX7) (N := 7) rfl rfl (Nat.lt_of_succ_le (Nat.le_of_ble_eq_true rfl)) rfl rfl (Nat.le_of_ble_eq_true rfl) ⟨Nat.le_of_ble_eq_true rfl, Nat.le_of_ble_eq_true rfl⟩ rfl (fun q_3 => ?_)
    exact w_ireturnA (v := q_3.1) hc hX dX7_same_33 rfl rfl rfl rfl
  · refine w_lload (q := 23) (i := 7) (j := 0) hc dX7_same_21 rfl rfl ?_
    refine w_lconst (q := 24) hc dX7_same_23 cl_0 rfl ?_
    refine w_lcmp (q := 25) hc dX7_same_24  rfl ?_
    refine w_ifge (q := 28) (tgt := 34) hc dX7_same_25 rfl rfl ?_ ?_
    · refine w_aload_n (q := 35) (i := 0) (j := 2) hc dX7_same_34 rfl rfl rfl ?_
      refine w_callV_Ri (q := 38) (st := []) (args := []) (p := 0) hc (m_X7_hurdle hK hR) dX7_same_35 ml_X7_196 cf_X7_hurdle iv_X7_hurdle (k_0 hK) (C := RX7) (T := TX7) (N := 7) rfl rfl (Nat.lt_of_succ_le (Nat.le_of_ble_eq_true rfl)) rfl rfl (Nat.le_of_ble_eq_true rfl) ⟨Nat.le_of_ble_eq_true rfl, Nat.le_of_ble_eq_true rfl⟩ rfl (fun q_4 => ?_)
      refine w_istore (q := 40) (i := 9) (lv' := [(9, .int q_4), (7, .long q_2), (5, .long q_1), (0, .ref 0), (1, .long a1), (3, .long a3)]) hc dX7_same_38 (hN 9 rfl) rfl rfl ?_
      refine w_iload (q := 42) (i := 9) (j := 0) hc dX7_same_40 rfl rfl ?_
      refine w_ifeq (q := 45) (tgt := 52) hc dX7_same_42 rfl rfl ?_ ?_
      · refine w_aload_n (q := 53) (i := 0) (j := 3) hc dX7_same_52 rfl rfl rfl ?_
        refine gf_X7_19 (q := 56) hc dX7_same_53 (k_0 hK) (r_0_1 hR) rfl ?_
        refine w_callA_r (q := 59) (st := []) (args := []) (p := 6) hc hX hRm hn m_X2_sorted dX7_same_56 ml_X7_236 cf_X2_sorted iv_X2_sorted (k_6 hK) (C := RX2) (T := TX2) (N := 13) rfl rfl (Nat.lt_of_succ_le (Nat.le_of_ble_eq_true rfl)) rfl rfl (Nat.le_of_ble_eq_true rfl) ⟨Nat.le_of_ble_eq_true rfl, Nat.le_of_ble_eq_true rfl⟩ rfl rfl rfl (fun q_5 G hc hX hRm hn => ?_)
        have hK := hX.2.2.2.1
        have hR := hX.2.2.2.2.1
        have hN : ∀ i, Nat.blt i 13 = true → i < gnL G := fun i h => hn ▸ Nat.blt_eq.mp h
        refine w_chk (fun hrm_6 => ?_)
        have hrm : q_5.2 ≠ 0 := of_decide_eq_true hrm_6
        refine w_astore (q := 61) (i := 10) (lv' := [(10, .ref 69), (9, .int q_4), (7, .long q_2), (5, .long q_1), (0, .ref 0), (1, .long a1), (3, .long a3)]) hc dX7_same_59 (hN 10 rfl) rfl rfl ?_
        refine w_aload (q := 63) (i := 10) (j := 0) hc dX7_same_61 rfl rfl ?_
        refine w_lload (q := 65) (i := 5) (j := 3) hc dX7_same_63 rfl rfl ?_
        refine w_callV_Ri (q := 68) (st := []) (args := [.long q_1]) (p := 69) hc (m_X4_find hK hR hrm) dX7_same_65 ml_X7_224 cf_X4_find iv_X4_find (k_69 hK hrm) (C := RX4) (T := TX4) (N := 16) rfl rfl (Nat.lt_of_succ_le (Nat.le_of_ble_eq_true rfl)) rfl rfl (Nat.le_of_ble_eq_true rfl) ⟨Nat.le_of_ble_eq_true rfl, Nat.le_of_ble_eq_true rfl⟩ rfl (fun q_7 => ?_)
        refine w_istore (q := 70) (i := 11) (lv' := [(11, .int q_7), (10, .ref 69), (9, .int q_4), (7, .long q_2), (5, .long q_1), (0, .ref 0), (1, .long a1), (3, .long a3)]) hc dX7_same_68 (hN 11 rfl) rfl rfl ?_
        refine w_aload (q := 72) (i := 10) (j := 1) hc dX7_same_70 rfl rfl ?_
        refine w_lload (q := 74) (i := 7) (j := 3) hc dX7_same_72 rfl rfl ?_
        refine w_callV_Ri (q := 77) (st := []) (args := [.long q_2]) (p := 69) hc (m_X4_find hK hR hrm) dX7_same_74 ml_X7_224 cf_X4_find iv_X4_find (k_69 hK hrm) (C := RX4) (T := TX4) (N := 16) rfl rfl (Nat.lt_of_succ_le (Nat.le_of_ble_eq_true rfl)) rfl rfl (Nat.le_of_ble_eq_true rfl) ⟨Nat.le_of_ble_eq_true rfl, Nat.le_of_ble_eq_true rfl⟩ rfl (fun q_8 => ?_)
        refine w_istore (q := 79) (i := 12) (lv' := [(12, .int q_8), (11, .int q_7), (10, .ref 69), (9, .int q_4), (7, .long q_2), (5, .long q_1), (0, .ref 0), (1, .long a1), (3, .long a3)]) hc dX7_same_77 (hN 12 rfl) rfl rfl ?_
        refine w_iload (q := 81) (i := 11) (j := 1) hc dX7_same_79 rfl rfl ?_
        refine w_iflt (q := 84) (tgt := 89) hc dX7_same_81 rfl rfl ?_ ?_
        · refine w_aload_n (q := 90) (i := 0) (j := 6) hc dX7_same_89 rfl rfl rfl ?_
          refine w_bipush (q := 92) hc dX7_same_90 cb_6 rfl ?_
          refine w_callV_Wi (q := 95) (st := []) (args := [.int 6]) (p := 0) hc (m_X7_refuse hK hR) dX7_same_92 ml_X7_56 cf_X7_refuse iv_X7_refuse (k_0 hK) (C := RX7) (T := TX7) (N := 7) rfl rfl (Nat.lt_of_succ_le (Nat.le_of_ble_eq_true rfl)) rfl rfl (Nat.le_of_ble_eq_true rfl) ⟨Nat.le_of_ble_eq_true rfl, Nat.le_of_ble_eq_true rfl⟩ rfl (fun q_9 => ?_)
          exact w_ireturnA (v := q_9.1) hc hX dX7_same_95 rfl rfl rfl rfl
        · refine w_iload (q := 86) (i := 12) (j := 0) hc dX7_same_84 rfl rfl ?_
          refine w_ifge (q := 89) (tgt := 96) hc dX7_same_86 rfl rfl ?_ ?_
          · refine w_aload_n (q := 97) (i := 0) (j := 6) hc dX7_same_96 rfl rfl rfl ?_
            refine w_aload (q := 99) (i := 10) (j := 2) hc dX7_same_97 rfl rfl ?_
            refine gf_X7_273 (q := 102) hc dX7_same_99 (k_69 hK hrm) (r_69_5 hR) rfl ?_
            refine w_iload (q := 104) (i := 11) (j := 1) hc dX7_same_102 rfl rfl ?_
            refine w_iald (q := 105) hc dX7_same_104 (k_71 hK hrm) rfl ?_
            refine w_aload (q := 107) (i := 10) (j := 2) hc dX7_same_105 rfl rfl ?_
            refine gf_X7_273 (q := 110) hc dX7_same_107 (k_69 hK hrm) (r_69_5 hR) rfl ?_
            refine w_iload (q := 112) (i := 12) (j := 0) hc dX7_same_110 rfl rfl ?_
            refine w_iald (q := 113) hc dX7_same_112 (k_71 hK hrm) rfl ?_
            refine w_icmpne (q := 116) (tgt := 120) hc dX7_same_113 rfl rfl ?_ ?_
            · refine w_iconst (q := 117) hc dX7_same_116 ci_1 rfl ?_
              refine w_goto (tgt := 121) hc dX7_same_117 rfl ?_
              refine w_callV_Wi (q := 124) (st := []) (args := [.int 1]) (p := 0) hc (m_X7_tell hK hR) dX7_same_121 ml_X7_86 cf_X7_tell iv_X7_tell (k_0 hK) (C := RX7) (T := TX7) (N := 7) rfl rfl (Nat.lt_of_succ_le (Nat.le_of_ble_eq_true rfl)) rfl rfl (Nat.le_of_ble_eq_true rfl) ⟨Nat.le_of_ble_eq_true rfl, Nat.le_of_ble_eq_true rfl⟩ rfl (fun q_11 => ?_)
              exact w_ireturnA (v := q_11.1) hc hX dX7_same_124 rfl rfl rfl rfl
            · refine w_iconst (q := 121) hc dX7_same_120 ci_0 rfl ?_
              refine w_callV_Wi (q := 124) (st := []) (args := [.int 0]) (p := 0) hc (m_X7_tell hK hR) dX7_same_121 ml_X7_86 cf_X7_tell iv_X7_tell (k_0 hK) (C := RX7) (T := TX7) (N := 7) rfl rfl (Nat.lt_of_succ_le (Nat.le_of_ble_eq_true rfl)) rfl rfl (Nat.le_of_ble_eq_true rfl) ⟨Nat.le_of_ble_eq_true rfl, Nat.le_of_ble_eq_true rfl⟩ rfl (fun q_10 => ?_)
              exact w_ireturnA (v := q_10.1) hc hX dX7_same_124 rfl rfl rfl rfl
          · refine w_aload_n (q := 90) (i := 0) (j := 6) hc dX7_same_89 rfl rfl rfl ?_
            refine w_bipush (q := 92) hc dX7_same_90 cb_6 rfl ?_
            refine w_callV_Wi (q := 95) (st := []) (args := [.int 6]) (p := 0) hc (m_X7_refuse hK hR) dX7_same_92 ml_X7_56 cf_X7_refuse iv_X7_refuse (k_0 hK) (C := RX7) (T := TX7) (N := 7) rfl rfl (Nat.lt_of_succ_le (Nat.le_of_ble_eq_true rfl)) rfl rfl (Nat.le_of_ble_eq_true rfl) ⟨Nat.le_of_ble_eq_true rfl, Nat.le_of_ble_eq_true rfl⟩ rfl (fun q_12 => ?_)
            exact w_ireturnA (v := q_12.1) hc hX dX7_same_95 rfl rfl rfl rfl
      · refine w_aload_n (q := 46) (i := 0) (j := 3) hc dX7_same_45 rfl rfl rfl ?_
        refine w_iload (q := 48) (i := 9) (j := 0) hc dX7_same_46 rfl rfl ?_
        refine w_callV_Wi (q := 51) (st := []) (args := [.int q_4]) (p := 0) hc (m_X7_refuse hK hR) dX7_same_48 ml_X7_56 cf_X7_refuse iv_X7_refuse (k_0 hK) (C := RX7) (T := TX7) (N := 7) rfl rfl (Nat.lt_of_succ_le (Nat.le_of_ble_eq_true rfl)) rfl rfl (Nat.le_of_ble_eq_true rfl) ⟨Nat.le_of_ble_eq_true rfl, Nat.le_of_ble_eq_true rfl⟩ rfl (fun q_13 => ?_)
        exact w_ireturnA (v := q_13.1) hc hX dX7_same_51 rfl rfl rfl rfl
    · refine w_aload_n (q := 29) (i := 0) (j := 2) hc dX7_same_28 rfl rfl rfl ?_
      refine w_iconst (q := 30) hc dX7_same_29 ci_1 rfl ?_
      refine w_callV_Wi (q := 33) (st := []) (args := [.int 1]) (p := 0) hc (m_X7_refuse hK hR) dX7_same_30 ml_X7_56 cf_X7_refuse iv_X7_refuse (k_0 hK) (C := RX7) (T := TX7) (N := 7) rfl rfl (Nat.lt_of_succ_le (Nat.le_of_ble_eq_true rfl)) rfl rfl (Nat.le_of_ble_eq_true rfl) ⟨Nat.le_of_ble_eq_true rfl, Nat.le_of_ble_eq_true rfl⟩ rfl (fun q_14 => ?_)
      exact w_ireturnA (v := q_14.1) hc hX dX7_same_33 rfl rfl rfl rfl
set_option maxRecDepth 100000 in
set_option maxHeartbeats 4000000 in
theorem m_X7_central {l : Launch} {K : KT} {R : MR} {rm : Nat} {a1 : Int32} {I : MI} {L : ML} (hK0 : K = lK rm) (hR0 : R = lR rm) : MFg l yX7_central cX7_central 3 (some .int) 7 187 [.ref 0, .int a1] K R I L anIW meW (f_X7_central a1 I L) := by
  refine mf_of (plainFor_of_name (by decide)) (Nat.le_of_ble_eq_true rfl) ?_
  intro G hc _ hK1 hR1 hn hq
  have hK := hK1.trans hK0
  have hR := hR1.trans hR0
  have hN : ∀ i, Nat.blt i 3 = true → i < gnL G := fun i h => hn ▸ Nat.blt_eq.mp h
  unfold f_X7_central
  show WW G 0 [(0, .ref 0), (1, .int a1)] [] I L _
  refine w_iload_n (q := 1) (i := 1) (j := 1) hc dX7_central_0 rfl rfl rfl ?_
  refine w_ifge (q := 4) (tgt := 10) hc dX7_central_1 rfl rfl ?_ ?_
  · refine w_aload_n (q := 11) (i := 0) (j := 0) hc dX7_central_10 rfl rfl rfl ?_
    refine gf_X7_19 (q := 14) hc dX7_central_11 (k_0 hK) (r_0_1 hR) rfl ?_
    refine gf_X7_95 (q := 17) hc dX7_central_14 (k_6 hK) rfl ?_
    refine w_ifne (q := 20) (tgt := 26) hc dX7_central_17 rfl rfl ?_ ?_
    · refine w_aload_n (q := 21) (i := 0) (j := 0) hc dX7_central_20 rfl rfl rfl ?_
      refine w_iconst (q := 22) hc dX7_central_21 ci_5 rfl ?_
      refine w_callV_Wi (q := 25) (st := []) (args := [.int 5]) (p := 0) hc (m_X7_refuse hK hR) dX7_central_22 ml_X7_56 cf_X7_refuse iv_X7_refuse (k_0 hK) (C := RX7) (T := TX7) (N := 7) rfl rfl (Nat.lt_of_succ_le (Nat.le_of_ble_eq_true rfl)) rfl rfl (Nat.le_of_ble_eq_true rfl) ⟨Nat.le_of_ble_eq_true rfl, Nat.le_of_ble_eq_true rfl⟩ rfl (fun q_5 => ?_)
      exact w_ireturn (v := q_5.1) hc hq dX7_central_25 rfl rfl rfl
    · refine w_aload_n (q := 27) (i := 0) (j := 0) hc dX7_central_26 rfl rfl rfl ?_
      refine gf_X7_19 (q := 30) hc dX7_central_27 (k_0 hK) (r_0_1 hR) rfl ?_
      refine w_iconst (q := 31) hc dX7_central_30 ci_1 rfl ?_
      refine w_callV_Wr (q := 34) (st := []) (args := [.int 1]) (p := 6) hc (m_X2_descentByT hK hR) dX7_central_31 ml_X7_245 cf_X2_descentBy iv_X2_descentBy (k_6 hK) (C := RX2) (T := TX2) (N := 13) rfl rfl (Nat.lt_of_succ_le (Nat.le_of_ble_eq_true rfl)) rfl rfl (Nat.le_of_ble_eq_true rfl) ⟨Nat.le_of_ble_eq_true rfl, Nat.le_of_ble_eq_true rfl⟩ rfl (fun q_1 => ?_)
      refine w_iload_n (q := 35) (i := 1) (j := 1) hc dX7_central_34 rfl rfl rfl ?_
      refine w_callV_Ri (q := 38) (st := []) (args := [.int a1]) (p := 33) hc (m_X1_sizeAt hK hR (de_33)) dX7_central_35 ml_X7_249 cf_X1_sizeAt iv_X1_sizeAt (k_33 hK) (C := RX1) (T := TX1) (N := 5) rfl rfl (Nat.lt_of_succ_le (Nat.le_of_ble_eq_true rfl)) rfl rfl (Nat.le_of_ble_eq_true rfl) ⟨Nat.le_of_ble_eq_true rfl, Nat.le_of_ble_eq_true rfl⟩ rfl (fun q_2 => ?_)
      refine w_istore_n (q := 39) (i := 2) (lv' := [(2, .int q_2), (0, .ref 0), (1, .int a1)]) hc dX7_central_38 rfl (hN 2 rfl) rfl rfl ?_
      refine w_iload_n (q := 40) (i := 2) (j := 0) hc dX7_central_39 rfl rfl rfl ?_
      refine w_ifne (q := 43) (tgt := 51) hc dX7_central_40 rfl rfl ?_ ?_
      · refine w_aload_n (q := 44) (i := 0) (j := 1) hc dX7_central_43 rfl rfl rfl ?_
        refine w_iconst (q := 45) hc dX7_central_44 ci_5 rfl ?_
        refine w_callV_Wi (q := 48) (st := []) (args := [.int 5]) (p := 0) hc (m_X7_refuse hK hR) dX7_central_45 ml_X7_56 cf_X7_refuse iv_X7_refuse (k_0 hK) (C := RX7) (T := TX7) (N := 7) rfl rfl (Nat.lt_of_succ_le (Nat.le_of_ble_eq_true rfl)) rfl rfl (Nat.le_of_ble_eq_true rfl) ⟨Nat.le_of_ble_eq_true rfl, Nat.le_of_ble_eq_true rfl⟩ rfl (fun q_4 => ?_)
        refine w_goto (tgt := 56) hc dX7_central_48 rfl ?_
        exact w_ireturn (v := q_4.1) hc hq dX7_central_56 rfl rfl rfl
      · refine w_aload_n (q := 52) (i := 0) (j := 1) hc dX7_central_51 rfl rfl rfl ?_
        refine w_iload_n (q := 53) (i := 2) (j := 0) hc dX7_central_52 rfl rfl rfl ?_
        refine w_callV_Wi (q := 56) (st := []) (args := [.int q_2]) (p := 0) hc (m_X7_tell hK hR) dX7_central_53 ml_X7_86 cf_X7_tell iv_X7_tell (k_0 hK) (C := RX7) (T := TX7) (N := 7) rfl rfl (Nat.lt_of_succ_le (Nat.le_of_ble_eq_true rfl)) rfl rfl (Nat.le_of_ble_eq_true rfl) ⟨Nat.le_of_ble_eq_true rfl, Nat.le_of_ble_eq_true rfl⟩ rfl (fun q_3 => ?_)
        exact w_ireturn (v := q_3.1) hc hq dX7_central_56 rfl rfl rfl
  · refine w_aload_n (q := 5) (i := 0) (j := 0) hc dX7_central_4 rfl rfl rfl ?_
    refine w_iconst (q := 6) hc dX7_central_5 ci_1 rfl ?_
    refine w_callV_Wi (q := 9) (st := []) (args := [.int 1]) (p := 0) hc (m_X7_refuse hK hR) dX7_central_6 ml_X7_56 cf_X7_refuse iv_X7_refuse (k_0 hK) (C := RX7) (T := TX7) (N := 7) rfl rfl (Nat.lt_of_succ_le (Nat.le_of_ble_eq_true rfl)) rfl rfl (Nat.le_of_ble_eq_true rfl) ⟨Nat.le_of_ble_eq_true rfl, Nat.le_of_ble_eq_true rfl⟩ rfl (fun q_6 => ?_)
    exact w_ireturn (v := q_6.1) hc hq dX7_central_9 rfl rfl rfl
set_option maxRecDepth 100000 in
set_option maxHeartbeats 4000000 in
theorem m_X7_by {l : Launch} {K : KT} {R : MR} {rm : Nat} {a1 : Int32} {I : MI} {L : ML} (hK0 : K = lK rm) (hR0 : R = lR rm) : MFg l yX7_by cX7_by 2 (some .int) 6 159 [.ref 0, .int a1] K R I L anIW meW (f_X7_by a1 I L) := by
  refine mf_of (plainFor_of_name (by decide)) (Nat.le_of_ble_eq_true rfl) ?_
  intro G hc _ hK1 hR1 hn hq
  have hK := hK1.trans hK0
  have hR := hR1.trans hR0
  have hN : ∀ i, Nat.blt i 2 = true → i < gnL G := fun i h => hn ▸ Nat.blt_eq.mp h
  unfold f_X7_by
  show WW G 0 [(0, .ref 0), (1, .int a1)] [] I L _
  refine w_aload_n (q := 1) (i := 0) (j := 0) hc dX7_by_0 rfl rfl rfl ?_
  refine gf_X7_19 (q := 4) hc dX7_by_1 (k_0 hK) (r_0_1 hR) rfl ?_
  refine w_iload_n (q := 5) (i := 1) (j := 1) hc dX7_by_4 rfl rfl rfl ?_
  refine w_callV_Rz (q := 8) (st := []) (args := [.int a1]) (p := 6) hc (m_X2_hasMoves hK hR) dX7_by_5 ml_X7_277 cf_X2_hasMoves iv_X2_hasMoves (k_6 hK) (C := RX2) (T := TX2) (N := 13) rfl rfl (Nat.lt_of_succ_le (Nat.le_of_ble_eq_true rfl)) rfl rfl (Nat.le_of_ble_eq_true rfl) ⟨Nat.le_of_ble_eq_true rfl, Nat.le_of_ble_eq_true rfl⟩ rfl (fun q_1 => ?_)
  refine w_ifne (q := 11) (tgt := 17) hc dX7_by_8 rfl rfl ?_ ?_
  · refine w_aload_n (q := 12) (i := 0) (j := 0) hc dX7_by_11 rfl rfl rfl ?_
    refine w_iconst (q := 13) hc dX7_by_12 ci_2 rfl ?_
    refine w_callV_Wi (q := 16) (st := []) (args := [.int 2]) (p := 0) hc (m_X7_refuse hK hR) dX7_by_13 ml_X7_56 cf_X7_refuse iv_X7_refuse (k_0 hK) (C := RX7) (T := TX7) (N := 7) rfl rfl (Nat.lt_of_succ_le (Nat.le_of_ble_eq_true rfl)) rfl rfl (Nat.le_of_ble_eq_true rfl) ⟨Nat.le_of_ble_eq_true rfl, Nat.le_of_ble_eq_true rfl⟩ rfl (fun q_5 => ?_)
    exact w_ireturn (v := q_5.1) hc hq dX7_by_16 rfl rfl rfl
  · refine w_aload_n (q := 18) (i := 0) (j := 0) hc dX7_by_17 rfl rfl rfl ?_
    refine gf_X7_19 (q := 21) hc dX7_by_18 (k_0 hK) (r_0_1 hR) rfl ?_
    refine gf_X7_95 (q := 24) hc dX7_by_21 (k_6 hK) rfl ?_
    refine w_ifne (q := 27) (tgt := 33) hc dX7_by_24 rfl rfl ?_ ?_
    · refine w_aload_n (q := 28) (i := 0) (j := 0) hc dX7_by_27 rfl rfl rfl ?_
      refine w_iconst (q := 29) hc dX7_by_28 ci_5 rfl ?_
      refine w_callV_Wi (q := 32) (st := []) (args := [.int 5]) (p := 0) hc (m_X7_refuse hK hR) dX7_by_29 ml_X7_56 cf_X7_refuse iv_X7_refuse (k_0 hK) (C := RX7) (T := TX7) (N := 7) rfl rfl (Nat.lt_of_succ_le (Nat.le_of_ble_eq_true rfl)) rfl rfl (Nat.le_of_ble_eq_true rfl) ⟨Nat.le_of_ble_eq_true rfl, Nat.le_of_ble_eq_true rfl⟩ rfl (fun q_4 => ?_)
      exact w_ireturn (v := q_4.1) hc hq dX7_by_32 rfl rfl rfl
    · refine w_aload_n (q := 34) (i := 0) (j := 0) hc dX7_by_33 rfl rfl rfl ?_
      refine w_aload_n (q := 35) (i := 0) (j := 0) hc dX7_by_34 rfl rfl rfl ?_
      refine gf_X7_19 (q := 38) hc dX7_by_35 (k_0 hK) (r_0_1 hR) rfl ?_
      refine w_iload_n (q := 39) (i := 1) (j := 1) hc dX7_by_38 rfl rfl rfl ?_
      refine w_callV_Wi (q := 42) (st := [.ref 0]) (args := [.int a1]) (p := 6) hc (m_X2_sizeBy hK hR) dX7_by_39 ml_X7_280 cf_X2_sizeBy iv_X2_sizeBy (k_6 hK) (C := RX2) (T := TX2) (N := 13) rfl rfl (Nat.lt_of_succ_le (Nat.le_of_ble_eq_true rfl)) rfl rfl (Nat.le_of_ble_eq_true rfl) ⟨Nat.le_of_ble_eq_true rfl, Nat.le_of_ble_eq_true rfl⟩ rfl (fun q_2 => ?_)
      refine w_callV_Wi (q := 45) (st := []) (args := [.int q_2.1]) (p := 0) hc (m_X7_tell hK hR) dX7_by_42 ml_X7_86 cf_X7_tell iv_X7_tell (k_0 hK) (C := RX7) (T := TX7) (N := 7) rfl rfl (Nat.lt_of_succ_le (Nat.le_of_ble_eq_true rfl)) rfl rfl (Nat.le_of_ble_eq_true rfl) ⟨Nat.le_of_ble_eq_true rfl, Nat.le_of_ble_eq_true rfl⟩ rfl (fun q_3 => ?_)
      exact w_ireturn (v := q_3.1) hc hq dX7_by_45 rfl rfl rfl
set_option maxRecDepth 100000 in
set_option maxHeartbeats 4000000 in
theorem m_X7_meet {l : Launch} {rm : Nat} {a1 : Int32} {a2 : Int32} {I : MI} {L : ML} : MFa l yX7_meet cX7_meet 4 (some .int) 6 164 [.ref 0, .int a1, .int a2] rm I L anIA meA roA (f_X7_meet rm a1 a2 I L) := by
  refine mfa_of (plainFor_of_name (by decide)) (Nat.le_of_ble_eq_true rfl) ?_
  intro G ad0 hc hX hRm hn
  have hK := hX.2.2.2.1
  have hR := hX.2.2.2.2.1
  have hN : ∀ i, Nat.blt i 4 = true → i < gnL G := fun i h => hn ▸ Nat.blt_eq.mp h
  unfold f_X7_meet
  show WW G 0 [(0, .ref 0), (1, .int a1), (2, .int a2)] [] I L _
  refine w_aload_n (q := 1) (i := 0) (j := 0) hc dX7_meet_0 rfl rfl rfl ?_
  refine gf_X7_19 (q := 4) hc dX7_meet_1 (k_0 hK) (r_0_1 hR) rfl ?_
  refine w_iload_n (q := 5) (i := 1) (j := 1) hc dX7_meet_4 rfl rfl rfl ?_
  refine w_callV_Rz (q := 8) (st := []) (args := [.int a1]) (p := 6) hc (m_X2_hasMoves hK hR) dX7_meet_5 ml_X7_277 cf_X2_hasMoves iv_X2_hasMoves (k_6 hK) (C := RX2) (T := TX2) (N := 13) rfl rfl (Nat.lt_of_succ_le (Nat.le_of_ble_eq_true rfl)) rfl rfl (Nat.le_of_ble_eq_true rfl) ⟨Nat.le_of_ble_eq_true rfl, Nat.le_of_ble_eq_true rfl⟩ rfl (fun q_1 => ?_)
  refine w_ifeq (q := 11) (tgt := 22) hc dX7_meet_8 rfl rfl ?_ ?_
  · refine w_aload_n (q := 23) (i := 0) (j := 0) hc dX7_meet_22 rfl rfl rfl ?_
    refine w_iconst (q := 24) hc dX7_meet_23 ci_2 rfl ?_
    refine w_callV_Wi (q := 27) (st := []) (args := [.int 2]) (p := 0) hc (m_X7_refuse hK hR) dX7_meet_24 ml_X7_56 cf_X7_refuse iv_X7_refuse (k_0 hK) (C := RX7) (T := TX7) (N := 7) rfl rfl (Nat.lt_of_succ_le (Nat.le_of_ble_eq_true rfl)) rfl rfl (Nat.le_of_ble_eq_true rfl) ⟨Nat.le_of_ble_eq_true rfl, Nat.le_of_ble_eq_true rfl⟩ rfl (fun q_2 => ?_)
    exact w_ireturnA (v := q_2.1) hc hX dX7_meet_27 rfl rfl rfl rfl
  · refine w_aload_n (q := 12) (i := 0) (j := 0) hc dX7_meet_11 rfl rfl rfl ?_
    refine gf_X7_19 (q := 15) hc dX7_meet_12 (k_0 hK) (r_0_1 hR) rfl ?_
    refine w_iload_n (q := 16) (i := 2) (j := 2) hc dX7_meet_15 rfl rfl rfl ?_
    refine w_callV_Rz (q := 19) (st := []) (args := [.int a2]) (p := 6) hc (m_X2_hasMoves hK hR) dX7_meet_16 ml_X7_277 cf_X2_hasMoves iv_X2_hasMoves (k_6 hK) (C := RX2) (T := TX2) (N := 13) rfl rfl (Nat.lt_of_succ_le (Nat.le_of_ble_eq_true rfl)) rfl rfl (Nat.le_of_ble_eq_true rfl) ⟨Nat.le_of_ble_eq_true rfl, Nat.le_of_ble_eq_true rfl⟩ rfl (fun q_3 => ?_)
    refine w_ifne (q := 22) (tgt := 28) hc dX7_meet_19 rfl rfl ?_ ?_
    · refine w_aload_n (q := 23) (i := 0) (j := 0) hc dX7_meet_22 rfl rfl rfl ?_
      refine w_iconst (q := 24) hc dX7_meet_23 ci_2 rfl ?_
      refine w_callV_Wi (q := 27) (st := []) (args := [.int 2]) (p := 0) hc (m_X7_refuse hK hR) dX7_meet_24 ml_X7_56 cf_X7_refuse iv_X7_refuse (k_0 hK) (C := RX7) (T := TX7) (N := 7) rfl rfl (Nat.lt_of_succ_le (Nat.le_of_ble_eq_true rfl)) rfl rfl (Nat.le_of_ble_eq_true rfl) ⟨Nat.le_of_ble_eq_true rfl, Nat.le_of_ble_eq_true rfl⟩ rfl (fun q_8 => ?_)
      exact w_ireturnA (v := q_8.1) hc hX dX7_meet_27 rfl rfl rfl rfl
    · refine w_aload_n (q := 29) (i := 0) (j := 0) hc dX7_meet_28 rfl rfl rfl ?_
      refine w_callV_Ri (q := 32) (st := []) (args := []) (p := 0) hc (m_X7_hurdle hK hR) dX7_meet_29 ml_X7_196 cf_X7_hurdle iv_X7_hurdle (k_0 hK) (C := RX7) (T := TX7) (N := 7) rfl rfl (Nat.lt_of_succ_le (Nat.le_of_ble_eq_true rfl)) rfl rfl (Nat.le_of_ble_eq_true rfl) ⟨Nat.le_of_ble_eq_true rfl, Nat.le_of_ble_eq_true rfl⟩ rfl (fun q_4 => ?_)
      refine w_istore_n (q := 33) (i := 3) (lv' := [(3, .int q_4), (0, .ref 0), (1, .int a1), (2, .int a2)]) hc dX7_meet_32 rfl (hN 3 rfl) rfl rfl ?_
      refine w_iload_n (q := 34) (i := 3) (j := 0) hc dX7_meet_33 rfl rfl rfl ?_
      refine w_ifeq (q := 37) (tgt := 43) hc dX7_meet_34 rfl rfl ?_ ?_
      · refine w_aload_n (q := 44) (i := 0) (j := 1) hc dX7_meet_43 rfl rfl rfl ?_
        refine w_aload_n (q := 45) (i := 0) (j := 1) hc dX7_meet_44 rfl rfl rfl ?_
        refine gf_X7_19 (q := 48) hc dX7_meet_45 (k_0 hK) (r_0_1 hR) rfl ?_
        refine w_iload_n (q := 49) (i := 1) (j := 2) hc dX7_meet_48 rfl rfl rfl ?_
        refine w_iload_n (q := 50) (i := 2) (j := 3) hc dX7_meet_49 rfl rfl rfl ?_
        refine w_callA_i (q := 53) (st := [.ref 0]) (args := [.int a1, .int a2]) (p := 6) hc hX hRm hn m_X2_countInBoth dX7_meet_50 ml_X7_283 cf_X2_countInBoth iv_X2_countInBoth (k_6 hK) (C := RX2) (T := TX2) (N := 13) rfl rfl (Nat.lt_of_succ_le (Nat.le_of_ble_eq_true rfl)) rfl rfl (Nat.le_of_ble_eq_true rfl) ⟨Nat.le_of_ble_eq_true rfl, Nat.le_of_ble_eq_true rfl⟩ rfl rfl rfl (fun q_5 G hc hX hRm hn => ?_)
        have hK := hX.2.2.2.1
        have hR := hX.2.2.2.2.1
        have hN : ∀ i, Nat.blt i 4 = true → i < gnL G := fun i h => hn ▸ Nat.blt_eq.mp h
        refine w_callV_Wi (q := 56) (st := []) (args := [.int q_5.1.1]) (p := 0) hc (m_X7_tell hK hR) dX7_meet_53 ml_X7_86 cf_X7_tell iv_X7_tell (k_0 hK) (C := RX7) (T := TX7) (N := 7) rfl rfl (Nat.lt_of_succ_le (Nat.le_of_ble_eq_true rfl)) rfl rfl (Nat.le_of_ble_eq_true rfl) ⟨Nat.le_of_ble_eq_true rfl, Nat.le_of_ble_eq_true rfl⟩ rfl (fun q_6 => ?_)
        exact w_ireturnA (v := q_6.1) hc hX dX7_meet_56 rfl rfl rfl rfl
      · refine w_aload_n (q := 38) (i := 0) (j := 1) hc dX7_meet_37 rfl rfl rfl ?_
        refine w_iload_n (q := 39) (i := 3) (j := 0) hc dX7_meet_38 rfl rfl rfl ?_
        refine w_callV_Wi (q := 42) (st := []) (args := [.int q_4]) (p := 0) hc (m_X7_refuse hK hR) dX7_meet_39 ml_X7_56 cf_X7_refuse iv_X7_refuse (k_0 hK) (C := RX7) (T := TX7) (N := 7) rfl rfl (Nat.lt_of_succ_le (Nat.le_of_ble_eq_true rfl)) rfl rfl (Nat.le_of_ble_eq_true rfl) ⟨Nat.le_of_ble_eq_true rfl, Nat.le_of_ble_eq_true rfl⟩ rfl (fun q_7 => ?_)
        exact w_ireturnA (v := q_7.1) hc hX dX7_meet_42 rfl rfl rfl rfl
set_option maxRecDepth 100000 in
set_option maxHeartbeats 4000000 in
theorem m_X7_normal {l : Launch} {K : KT} {R : MR} {rm : Nat} {a1 : Int32} {I : MI} {L : ML} (hK0 : K = lK rm) (hR0 : R = lR rm) : MFg l yX7_normal cX7_normal 2 (some .int) 6 160 [.ref 0, .int a1] K R I L anIW meW (f_X7_normal a1 I L) := by
  refine mf_of (plainFor_of_name (by decide)) (Nat.le_of_ble_eq_true rfl) ?_
  intro G hc _ hK1 hR1 hn hq
  have hK := hK1.trans hK0
  have hR := hR1.trans hR0
  have hN : ∀ i, Nat.blt i 2 = true → i < gnL G := fun i h => hn ▸ Nat.blt_eq.mp h
  unfold f_X7_normal
  show WW G 0 [(0, .ref 0), (1, .int a1)] [] I L _
  refine w_aload_n (q := 1) (i := 0) (j := 0) hc dX7_normal_0 rfl rfl rfl ?_
  refine gf_X7_19 (q := 4) hc dX7_normal_1 (k_0 hK) (r_0_1 hR) rfl ?_
  refine w_iload_n (q := 5) (i := 1) (j := 1) hc dX7_normal_4 rfl rfl rfl ?_
  refine w_callV_Rz (q := 8) (st := []) (args := [.int a1]) (p := 6) hc (m_X2_hasMoves hK hR) dX7_normal_5 ml_X7_277 cf_X2_hasMoves iv_X2_hasMoves (k_6 hK) (C := RX2) (T := TX2) (N := 13) rfl rfl (Nat.lt_of_succ_le (Nat.le_of_ble_eq_true rfl)) rfl rfl (Nat.le_of_ble_eq_true rfl) ⟨Nat.le_of_ble_eq_true rfl, Nat.le_of_ble_eq_true rfl⟩ rfl (fun q_1 => ?_)
  refine w_ifne (q := 11) (tgt := 17) hc dX7_normal_8 rfl rfl ?_ ?_
  · refine w_aload_n (q := 12) (i := 0) (j := 0) hc dX7_normal_11 rfl rfl rfl ?_
    refine w_iconst (q := 13) hc dX7_normal_12 ci_2 rfl ?_
    refine w_callV_Wi (q := 16) (st := []) (args := [.int 2]) (p := 0) hc (m_X7_refuse hK hR) dX7_normal_13 ml_X7_56 cf_X7_refuse iv_X7_refuse (k_0 hK) (C := RX7) (T := TX7) (N := 7) rfl rfl (Nat.lt_of_succ_le (Nat.le_of_ble_eq_true rfl)) rfl rfl (Nat.le_of_ble_eq_true rfl) ⟨Nat.le_of_ble_eq_true rfl, Nat.le_of_ble_eq_true rfl⟩ rfl (fun q_6 => ?_)
    exact w_ireturn (v := q_6.1) hc hq dX7_normal_16 rfl rfl rfl
  · refine w_aload_n (q := 18) (i := 0) (j := 0) hc dX7_normal_17 rfl rfl rfl ?_
    refine gf_X7_19 (q := 21) hc dX7_normal_18 (k_0 hK) (r_0_1 hR) rfl ?_
    refine gf_X7_95 (q := 24) hc dX7_normal_21 (k_6 hK) rfl ?_
    refine w_ifne (q := 27) (tgt := 33) hc dX7_normal_24 rfl rfl ?_ ?_
    · refine w_aload_n (q := 28) (i := 0) (j := 0) hc dX7_normal_27 rfl rfl rfl ?_
      refine w_iconst (q := 29) hc dX7_normal_28 ci_5 rfl ?_
      refine w_callV_Wi (q := 32) (st := []) (args := [.int 5]) (p := 0) hc (m_X7_refuse hK hR) dX7_normal_29 ml_X7_56 cf_X7_refuse iv_X7_refuse (k_0 hK) (C := RX7) (T := TX7) (N := 7) rfl rfl (Nat.lt_of_succ_le (Nat.le_of_ble_eq_true rfl)) rfl rfl (Nat.le_of_ble_eq_true rfl) ⟨Nat.le_of_ble_eq_true rfl, Nat.le_of_ble_eq_true rfl⟩ rfl (fun q_5 => ?_)
      exact w_ireturn (v := q_5.1) hc hq dX7_normal_32 rfl rfl rfl
    · refine w_aload_n (q := 34) (i := 0) (j := 0) hc dX7_normal_33 rfl rfl rfl ?_
      refine w_aload_n (q := 35) (i := 0) (j := 0) hc dX7_normal_34 rfl rfl rfl ?_
      refine gf_X7_19 (q := 38) hc dX7_normal_35 (k_0 hK) (r_0_1 hR) rfl ?_
      refine w_iload_n (q := 39) (i := 1) (j := 1) hc dX7_normal_38 rfl rfl rfl ?_
      refine w_callV_Wz (q := 42) (st := [.ref 0]) (args := [.int a1]) (p := 6) hc (m_X2_staysTurned hK hR) dX7_normal_39 ml_X7_286 cf_X2_staysTurned iv_X2_staysTurned (k_6 hK) (C := RX2) (T := TX2) (N := 13) rfl rfl (Nat.lt_of_succ_le (Nat.le_of_ble_eq_true rfl)) rfl rfl (Nat.le_of_ble_eq_true rfl) ⟨Nat.le_of_ble_eq_true rfl, Nat.le_of_ble_eq_true rfl⟩ rfl (fun q_2 => ?_)
      refine w_ifeq (q := 45) (tgt := 49) hc dX7_normal_42 rfl rfl ?_ ?_
      · refine w_iconst (q := 50) hc dX7_normal_49 ci_0 rfl ?_
        refine w_callV_Wi (q := 53) (st := []) (args := [.int 0]) (p := 0) hc (m_X7_tell hK hR) dX7_normal_50 ml_X7_86 cf_X7_tell iv_X7_tell (k_0 hK) (C := RX7) (T := TX7) (N := 7) rfl rfl (Nat.lt_of_succ_le (Nat.le_of_ble_eq_true rfl)) rfl rfl (Nat.le_of_ble_eq_true rfl) ⟨Nat.le_of_ble_eq_true rfl, Nat.le_of_ble_eq_true rfl⟩ rfl (fun q_3 => ?_)
        exact w_ireturn (v := q_3.1) hc hq dX7_normal_53 rfl rfl rfl
      · refine w_iconst (q := 46) hc dX7_normal_45 ci_1 rfl ?_
        refine w_goto (tgt := 50) hc dX7_normal_46 rfl ?_
        refine w_callV_Wi (q := 53) (st := []) (args := [.int 1]) (p := 0) hc (m_X7_tell hK hR) dX7_normal_50 ml_X7_86 cf_X7_tell iv_X7_tell (k_0 hK) (C := RX7) (T := TX7) (N := 7) rfl rfl (Nat.lt_of_succ_le (Nat.le_of_ble_eq_true rfl)) rfl rfl (Nat.le_of_ble_eq_true rfl) ⟨Nat.le_of_ble_eq_true rfl, Nat.le_of_ble_eq_true rfl⟩ rfl (fun q_4 => ?_)
        exact w_ireturn (v := q_4.1) hc hq dX7_normal_53 rfl rfl rfl
set_option maxRecDepth 100000 in
set_option maxHeartbeats 4000000 in
theorem m_X7_spare {l : Launch} {K : KT} {R : MR} {rm : Nat} {I : MI} {L : ML} (hK0 : K = lK rm) (hR0 : R = lR rm) : MFg l yX7_spare cX7_spare 1 (some .int) 7 181 [.ref 0] K R I L anIW meW (f_X7_spare I L) := by
  refine mf_of (plainFor_of_name (by decide)) (Nat.le_of_ble_eq_true rfl) ?_
  intro G hc _ hK1 hR1 hn hq
  have hK := hK1.trans hK0
  have hR := hR1.trans hR0
  have hN : ∀ i, Nat.blt i 1 = true → i < gnL G := fun i h => hn ▸ Nat.blt_eq.mp h
  unfold f_X7_spare
  show WW G 0 [(0, .ref 0)] [] I L _
  refine w_aload_n (q := 1) (i := 0) (j := 0) hc dX7_spare_0 rfl rfl rfl ?_
  refine gf_X7_19 (q := 4) hc dX7_spare_1 (k_0 hK) (r_0_1 hR) rfl ?_
  refine gf_X7_95 (q := 7) hc dX7_spare_4 (k_6 hK) rfl ?_
  refine w_ifne (q := 10) (tgt := 16) hc dX7_spare_7 rfl rfl ?_ ?_
  · refine w_aload_n (q := 11) (i := 0) (j := 0) hc dX7_spare_10 rfl rfl rfl ?_
    refine w_iconst (q := 12) hc dX7_spare_11 ci_5 rfl ?_
    refine w_callV_Wi (q := 15) (st := []) (args := [.int 5]) (p := 0) hc (m_X7_refuse hK hR) dX7_spare_12 ml_X7_56 cf_X7_refuse iv_X7_refuse (k_0 hK) (C := RX7) (T := TX7) (N := 7) rfl rfl (Nat.lt_of_succ_le (Nat.le_of_ble_eq_true rfl)) rfl rfl (Nat.le_of_ble_eq_true rfl) ⟨Nat.le_of_ble_eq_true rfl, Nat.le_of_ble_eq_true rfl⟩ rfl (fun q_3 => ?_)
    exact w_ireturn (v := q_3.1) hc hq dX7_spare_15 rfl rfl rfl
  · refine w_aload_n (q := 17) (i := 0) (j := 0) hc dX7_spare_16 rfl rfl rfl ?_
    refine w_aload_n (q := 18) (i := 0) (j := 0) hc dX7_spare_17 rfl rfl rfl ?_
    refine gf_X7_19 (q := 21) hc dX7_spare_18 (k_0 hK) (r_0_1 hR) rfl ?_
    refine w_callV_Wi (q := 24) (st := [.ref 0]) (args := []) (p := 6) hc (m_X2_spareMoves hK hR) dX7_spare_21 ml_X7_289 cf_X2_spareMoves iv_X2_spareMoves (k_6 hK) (C := RX2) (T := TX2) (N := 13) rfl rfl (Nat.lt_of_succ_le (Nat.le_of_ble_eq_true rfl)) rfl rfl (Nat.le_of_ble_eq_true rfl) ⟨Nat.le_of_ble_eq_true rfl, Nat.le_of_ble_eq_true rfl⟩ rfl (fun q_1 => ?_)
    refine w_callV_Wi (q := 27) (st := []) (args := [.int q_1.1]) (p := 0) hc (m_X7_tell hK hR) dX7_spare_24 ml_X7_86 cf_X7_tell iv_X7_tell (k_0 hK) (C := RX7) (T := TX7) (N := 7) rfl rfl (Nat.lt_of_succ_le (Nat.le_of_ble_eq_true rfl)) rfl rfl (Nat.le_of_ble_eq_true rfl) ⟨Nat.le_of_ble_eq_true rfl, Nat.le_of_ble_eq_true rfl⟩ rfl (fun q_2 => ?_)
    exact w_ireturn (v := q_2.1) hc hq dX7_spare_27 rfl rfl rfl
set_option maxRecDepth 100000 in
set_option maxHeartbeats 4000000 in
theorem m_X7_fewest {l : Launch} {K : KT} {R : MR} {rm : Nat} {I : MI} {L : ML} (hK0 : K = lK rm) (hR0 : R = lR rm) : MFg l yX7_fewest cX7_fewest 1 (some .int) 7 184 [.ref 0] K R I L anIW meW (f_X7_fewest I L) := by
  refine mf_of (plainFor_of_name (by decide)) (Nat.le_of_ble_eq_true rfl) ?_
  intro G hc _ hK1 hR1 hn hq
  have hK := hK1.trans hK0
  have hR := hR1.trans hR0
  have hN : ∀ i, Nat.blt i 1 = true → i < gnL G := fun i h => hn ▸ Nat.blt_eq.mp h
  unfold f_X7_fewest
  show WW G 0 [(0, .ref 0)] [] I L _
  refine w_aload_n (q := 1) (i := 0) (j := 0) hc dX7_fewest_0 rfl rfl rfl ?_
  refine gf_X7_19 (q := 4) hc dX7_fewest_1 (k_0 hK) (r_0_1 hR) rfl ?_
  refine gf_X7_95 (q := 7) hc dX7_fewest_4 (k_6 hK) rfl ?_
  refine w_ifne (q := 10) (tgt := 16) hc dX7_fewest_7 rfl rfl ?_ ?_
  · refine w_aload_n (q := 11) (i := 0) (j := 0) hc dX7_fewest_10 rfl rfl rfl ?_
    refine w_iconst (q := 12) hc dX7_fewest_11 ci_5 rfl ?_
    refine w_callV_Wi (q := 15) (st := []) (args := [.int 5]) (p := 0) hc (m_X7_refuse hK hR) dX7_fewest_12 ml_X7_56 cf_X7_refuse iv_X7_refuse (k_0 hK) (C := RX7) (T := TX7) (N := 7) rfl rfl (Nat.lt_of_succ_le (Nat.le_of_ble_eq_true rfl)) rfl rfl (Nat.le_of_ble_eq_true rfl) ⟨Nat.le_of_ble_eq_true rfl, Nat.le_of_ble_eq_true rfl⟩ rfl (fun q_4 => ?_)
    exact w_ireturn (v := q_4.1) hc hq dX7_fewest_15 rfl rfl rfl
  · refine w_aload_n (q := 17) (i := 0) (j := 0) hc dX7_fewest_16 rfl rfl rfl ?_
    refine w_aload_n (q := 18) (i := 0) (j := 0) hc dX7_fewest_17 rfl rfl rfl ?_
    refine gf_X7_19 (q := 21) hc dX7_fewest_18 (k_0 hK) (r_0_1 hR) rfl ?_
    refine w_aload_n (q := 22) (i := 0) (j := 0) hc dX7_fewest_21 rfl rfl rfl ?_
    refine gf_X7_19 (q := 25) hc dX7_fewest_22 (k_0 hK) (r_0_1 hR) rfl ?_
    refine w_callV_Wi (q := 28) (st := [.ref 6, .ref 0]) (args := []) (p := 6) hc (m_X2_spareMoves hK hR) dX7_fewest_25 ml_X7_289 cf_X2_spareMoves iv_X2_spareMoves (k_6 hK) (C := RX2) (T := TX2) (N := 13) rfl rfl (Nat.lt_of_succ_le (Nat.le_of_ble_eq_true rfl)) rfl rfl (Nat.le_of_ble_eq_true rfl) ⟨Nat.le_of_ble_eq_true rfl, Nat.le_of_ble_eq_true rfl⟩ rfl (fun q_1 => ?_)
    refine w_callV_Wi (q := 31) (st := [.ref 0]) (args := [.int q_1.1]) (p := 6) hc (m_X2_fewestMoves hK hR) dX7_fewest_28 ml_X7_292 cf_X2_fewestMoves iv_X2_fewestMoves (k_6 hK) (C := RX2) (T := TX2) (N := 13) rfl rfl (Nat.lt_of_succ_le (Nat.le_of_ble_eq_true rfl)) rfl rfl (Nat.le_of_ble_eq_true rfl) ⟨Nat.le_of_ble_eq_true rfl, Nat.le_of_ble_eq_true rfl⟩ rfl (fun q_2 => ?_)
    refine w_callV_Wi (q := 34) (st := []) (args := [.int q_2.1]) (p := 0) hc (m_X7_tell hK hR) dX7_fewest_31 ml_X7_86 cf_X7_tell iv_X7_tell (k_0 hK) (C := RX7) (T := TX7) (N := 7) rfl rfl (Nat.lt_of_succ_le (Nat.le_of_ble_eq_true rfl)) rfl rfl (Nat.le_of_ble_eq_true rfl) ⟨Nat.le_of_ble_eq_true rfl, Nat.le_of_ble_eq_true rfl⟩ rfl (fun q_3 => ?_)
    exact w_ireturn (v := q_3.1) hc hq dX7_fewest_34 rfl rfl rfl
set_option maxRecDepth 100000 in
set_option maxHeartbeats 4000000 in
theorem m_X7_holds {l : Launch} {K : KT} {R : MR} {rm : Nat} {a1 : Int32} {I : MI} {L : ML} (hK0 : K = lK rm) (hR0 : R = lR rm) : MFg l yX7_holds cX7_holds 2 (some .int) 5 140 [.ref 0, .int a1] K R I L anIW meW (f_X7_holds a1 I L) := by
  refine mf_of (plainFor_of_name (by decide)) (Nat.le_of_ble_eq_true rfl) ?_
  intro G hc _ hK1 hR1 hn hq
  have hK := hK1.trans hK0
  have hR := hR1.trans hR0
  have hN : ∀ i, Nat.blt i 2 = true → i < gnL G := fun i h => hn ▸ Nat.blt_eq.mp h
  unfold f_X7_holds
  show WW G 0 [(0, .ref 0), (1, .int a1)] [] I L _
  refine w_aload_n (q := 1) (i := 0) (j := 0) hc dX7_holds_0 rfl rfl rfl ?_
  refine gf_X7_19 (q := 4) hc dX7_holds_1 (k_0 hK) (r_0_1 hR) rfl ?_
  refine w_iload_n (q := 5) (i := 1) (j := 1) hc dX7_holds_4 rfl rfl rfl ?_
  refine w_callV_Rz (q := 8) (st := []) (args := [.int a1]) (p := 6) hc (m_X2_hasSet hK hR) dX7_holds_5 ml_X7_295 cf_X2_hasSet iv_X2_hasSet (k_6 hK) (C := RX2) (T := TX2) (N := 13) rfl rfl (Nat.lt_of_succ_le (Nat.le_of_ble_eq_true rfl)) rfl rfl (Nat.le_of_ble_eq_true rfl) ⟨Nat.le_of_ble_eq_true rfl, Nat.le_of_ble_eq_true rfl⟩ rfl (fun q_1 => ?_)
  refine w_ifne (q := 11) (tgt := 17) hc dX7_holds_8 rfl rfl ?_ ?_
  · refine w_aload_n (q := 12) (i := 0) (j := 0) hc dX7_holds_11 rfl rfl rfl ?_
    refine w_iconst (q := 13) hc dX7_holds_12 ci_2 rfl ?_
    refine w_callV_Wi (q := 16) (st := []) (args := [.int 2]) (p := 0) hc (m_X7_refuse hK hR) dX7_holds_13 ml_X7_56 cf_X7_refuse iv_X7_refuse (k_0 hK) (C := RX7) (T := TX7) (N := 7) rfl rfl (Nat.lt_of_succ_le (Nat.le_of_ble_eq_true rfl)) rfl rfl (Nat.le_of_ble_eq_true rfl) ⟨Nat.le_of_ble_eq_true rfl, Nat.le_of_ble_eq_true rfl⟩ rfl (fun q_4 => ?_)
    exact w_ireturn (v := q_4.1) hc hq dX7_holds_16 rfl rfl rfl
  · refine w_aload_n (q := 18) (i := 0) (j := 0) hc dX7_holds_17 rfl rfl rfl ?_
    refine w_aload_n (q := 19) (i := 0) (j := 0) hc dX7_holds_18 rfl rfl rfl ?_
    refine gf_X7_19 (q := 22) hc dX7_holds_19 (k_0 hK) (r_0_1 hR) rfl ?_
    refine w_iload_n (q := 23) (i := 1) (j := 1) hc dX7_holds_22 rfl rfl rfl ?_
    refine w_callV_Wi (q := 26) (st := [.ref 0]) (args := [.int a1]) (p := 6) hc (m_X2_countHolding hK hR) dX7_holds_23 ml_X7_298 cf_X2_countHolding iv_X2_countHolding (k_6 hK) (C := RX2) (T := TX2) (N := 13) rfl rfl (Nat.lt_of_succ_le (Nat.le_of_ble_eq_true rfl)) rfl rfl (Nat.le_of_ble_eq_true rfl) ⟨Nat.le_of_ble_eq_true rfl, Nat.le_of_ble_eq_true rfl⟩ rfl (fun q_2 => ?_)
    refine w_callV_Wi (q := 29) (st := []) (args := [.int q_2.1]) (p := 0) hc (m_X7_tell hK hR) dX7_holds_26 ml_X7_86 cf_X7_tell iv_X7_tell (k_0 hK) (C := RX7) (T := TX7) (N := 7) rfl rfl (Nat.lt_of_succ_le (Nat.le_of_ble_eq_true rfl)) rfl rfl (Nat.le_of_ble_eq_true rfl) ⟨Nat.le_of_ble_eq_true rfl, Nat.le_of_ble_eq_true rfl⟩ rfl (fun q_3 => ?_)
    exact w_ireturn (v := q_3.1) hc hq dX7_holds_29 rfl rfl rfl
set_option maxRecDepth 100000 in
set_option maxHeartbeats 4000000 in
theorem m_X7_keeps {l : Launch} {rm : Nat} {a1 : Int32} {I : MI} {L : ML} : MFa l yX7_keeps cX7_keeps 3 (some .int) 5 107 [.ref 0, .int a1] rm I L anIA meA roA (f_X7_keeps rm a1 I L) := by
  refine mfa_of (plainFor_of_name (by decide)) (Nat.le_of_ble_eq_true rfl) ?_
  intro G ad0 hc hX hRm hn
  have hK := hX.2.2.2.1
  have hR := hX.2.2.2.2.1
  have hN : ∀ i, Nat.blt i 3 = true → i < gnL G := fun i h => hn ▸ Nat.blt_eq.mp h
  unfold f_X7_keeps
  show WW G 0 [(0, .ref 0), (1, .int a1)] [] I L _
  refine w_aload_n (q := 1) (i := 0) (j := 0) hc dX7_keeps_0 rfl rfl rfl ?_
  refine gf_X7_19 (q := 4) hc dX7_keeps_1 (k_0 hK) (r_0_1 hR) rfl ?_
  refine w_iload_n (q := 5) (i := 1) (j := 1) hc dX7_keeps_4 rfl rfl rfl ?_
  refine w_callV_Rz (q := 8) (st := []) (args := [.int a1]) (p := 6) hc (m_X2_hasSet hK hR) dX7_keeps_5 ml_X7_295 cf_X2_hasSet iv_X2_hasSet (k_6 hK) (C := RX2) (T := TX2) (N := 13) rfl rfl (Nat.lt_of_succ_le (Nat.le_of_ble_eq_true rfl)) rfl rfl (Nat.le_of_ble_eq_true rfl) ⟨Nat.le_of_ble_eq_true rfl, Nat.le_of_ble_eq_true rfl⟩ rfl (fun q_1 => ?_)
  refine w_ifne (q := 11) (tgt := 17) hc dX7_keeps_8 rfl rfl ?_ ?_
  · refine w_aload_n (q := 12) (i := 0) (j := 0) hc dX7_keeps_11 rfl rfl rfl ?_
    refine w_iconst (q := 13) hc dX7_keeps_12 ci_2 rfl ?_
    refine w_callV_Wi (q := 16) (st := []) (args := [.int 2]) (p := 0) hc (m_X7_refuse hK hR) dX7_keeps_13 ml_X7_56 cf_X7_refuse iv_X7_refuse (k_0 hK) (C := RX7) (T := TX7) (N := 7) rfl rfl (Nat.lt_of_succ_le (Nat.le_of_ble_eq_true rfl)) rfl rfl (Nat.le_of_ble_eq_true rfl) ⟨Nat.le_of_ble_eq_true rfl, Nat.le_of_ble_eq_true rfl⟩ rfl (fun q_8 => ?_)
    exact w_ireturnA (v := q_8.1) hc hX dX7_keeps_16 rfl rfl rfl rfl
  · refine w_aload_n (q := 18) (i := 0) (j := 0) hc dX7_keeps_17 rfl rfl rfl ?_
    refine w_callV_Ri (q := 21) (st := []) (args := []) (p := 0) hc (m_X7_hurdle hK hR) dX7_keeps_18 ml_X7_196 cf_X7_hurdle iv_X7_hurdle (k_0 hK) (C := RX7) (T := TX7) (N := 7) rfl rfl (Nat.lt_of_succ_le (Nat.le_of_ble_eq_true rfl)) rfl rfl (Nat.le_of_ble_eq_true rfl) ⟨Nat.le_of_ble_eq_true rfl, Nat.le_of_ble_eq_true rfl⟩ rfl (fun q_2 => ?_)
    refine w_istore_n (q := 22) (i := 2) (lv' := [(2, .int q_2), (0, .ref 0), (1, .int a1)]) hc dX7_keeps_21 rfl (hN 2 rfl) rfl rfl ?_
    refine w_iload_n (q := 23) (i := 2) (j := 0) hc dX7_keeps_22 rfl rfl rfl ?_
    refine w_ifeq (q := 26) (tgt := 32) hc dX7_keeps_23 rfl rfl ?_ ?_
    · refine w_aload_n (q := 33) (i := 0) (j := 1) hc dX7_keeps_32 rfl rfl rfl ?_
      refine w_aload_n (q := 34) (i := 0) (j := 1) hc dX7_keeps_33 rfl rfl rfl ?_
      refine gf_X7_19 (q := 37) hc dX7_keeps_34 (k_0 hK) (r_0_1 hR) rfl ?_
      refine w_callA_r (q := 40) (st := [.ref 0]) (args := []) (p := 6) hc hX hRm hn m_X2_all dX7_keeps_37 ml_X7_301 cf_X2_all iv_X2_all (k_6 hK) (C := RX2) (T := TX2) (N := 13) rfl rfl (Nat.lt_of_succ_le (Nat.le_of_ble_eq_true rfl)) rfl rfl (Nat.le_of_ble_eq_true rfl) ⟨Nat.le_of_ble_eq_true rfl, Nat.le_of_ble_eq_true rfl⟩ rfl rfl rfl (fun q_3 G hc hX hRm hn => ?_)
      have hK := hX.2.2.2.1
      have hR := hX.2.2.2.2.1
      have hN : ∀ i, Nat.blt i 3 = true → i < gnL G := fun i h => hn ▸ Nat.blt_eq.mp h
      refine w_chk (fun hrm_4 => ?_)
      have hrm : q_3.2 ≠ 0 := of_decide_eq_true hrm_4
      refine w_iload_n (q := 41) (i := 1) (j := 2) hc dX7_keeps_40 rfl rfl rfl ?_
      refine w_callV_Ri (q := 44) (st := [.ref 0]) (args := [.int a1]) (p := 69) hc (m_X4_countKeeping hK hR hrm) dX7_keeps_41 ml_X7_304 cf_X4_countKeeping iv_X4_countKeeping (k_69 hK hrm) (C := RX4) (T := TX4) (N := 16) rfl rfl (Nat.lt_of_succ_le (Nat.le_of_ble_eq_true rfl)) rfl rfl (Nat.le_of_ble_eq_true rfl) ⟨Nat.le_of_ble_eq_true rfl, Nat.le_of_ble_eq_true rfl⟩ rfl (fun q_5 => ?_)
      refine w_callV_Wi (q := 47) (st := []) (args := [.int q_5]) (p := 0) hc (m_X7_tell hK hR) dX7_keeps_44 ml_X7_86 cf_X7_tell iv_X7_tell (k_0 hK) (C := RX7) (T := TX7) (N := 7) rfl rfl (Nat.lt_of_succ_le (Nat.le_of_ble_eq_true rfl)) rfl rfl (Nat.le_of_ble_eq_true rfl) ⟨Nat.le_of_ble_eq_true rfl, Nat.le_of_ble_eq_true rfl⟩ rfl (fun q_6 => ?_)
      exact w_ireturnA (v := q_6.1) hc hX dX7_keeps_47 rfl rfl rfl rfl
    · refine w_aload_n (q := 27) (i := 0) (j := 1) hc dX7_keeps_26 rfl rfl rfl ?_
      refine w_iload_n (q := 28) (i := 2) (j := 0) hc dX7_keeps_27 rfl rfl rfl ?_
      refine w_callV_Wi (q := 31) (st := []) (args := [.int q_2]) (p := 0) hc (m_X7_refuse hK hR) dX7_keeps_28 ml_X7_56 cf_X7_refuse iv_X7_refuse (k_0 hK) (C := RX7) (T := TX7) (N := 7) rfl rfl (Nat.lt_of_succ_le (Nat.le_of_ble_eq_true rfl)) rfl rfl (Nat.le_of_ble_eq_true rfl) ⟨Nat.le_of_ble_eq_true rfl, Nat.le_of_ble_eq_true rfl⟩ rfl (fun q_7 => ?_)
      exact w_ireturnA (v := q_7.1) hc hX dX7_keeps_31 rfl rfl rfl rfl
set_option maxRecDepth 100000 in
set_option maxHeartbeats 4000000 in
theorem m_X7_brings {l : Launch} {rm : Nat} {a1 : Int32} {a2 : Int32} {I : MI} {L : ML} : MFa l yX7_brings cX7_brings 5 (some .int) 5 107 [.ref 0, .int a1, .int a2] rm I L anIA meA roA (f_X7_brings rm a1 a2 I L) := by
  refine mfa_of (plainFor_of_name (by decide)) (Nat.le_of_ble_eq_true rfl) ?_
  intro G ad0 hc hX hRm hn
  have hK := hX.2.2.2.1
  have hR := hX.2.2.2.2.1
  have hN : ∀ i, Nat.blt i 5 = true → i < gnL G := fun i h => hn ▸ Nat.blt_eq.mp h
  unfold f_X7_brings
  show WW G 0 [(0, .ref 0), (1, .int a1), (2, .int a2)] [] I L _
  refine w_aload_n (q := 1) (i := 0) (j := 0) hc dX7_brings_0 rfl rfl rfl ?_
  refine gf_X7_19 (q := 4) hc dX7_brings_1 (k_0 hK) (r_0_1 hR) rfl ?_
  refine w_iload_n (q := 5) (i := 1) (j := 1) hc dX7_brings_4 rfl rfl rfl ?_
  refine w_callV_Rz (q := 8) (st := []) (args := [.int a1]) (p := 6) hc (m_X2_hasSet hK hR) dX7_brings_5 ml_X7_295 cf_X2_hasSet iv_X2_hasSet (k_6 hK) (C := RX2) (T := TX2) (N := 13) rfl rfl (Nat.lt_of_succ_le (Nat.le_of_ble_eq_true rfl)) rfl rfl (Nat.le_of_ble_eq_true rfl) ⟨Nat.le_of_ble_eq_true rfl, Nat.le_of_ble_eq_true rfl⟩ rfl (fun q_1 => ?_)
  refine w_ifeq (q := 11) (tgt := 22) hc dX7_brings_8 rfl rfl ?_ ?_
  · refine w_aload_n (q := 23) (i := 0) (j := 0) hc dX7_brings_22 rfl rfl rfl ?_
    refine w_iconst (q := 24) hc dX7_brings_23 ci_2 rfl ?_
    refine w_callV_Wi (q := 27) (st := []) (args := [.int 2]) (p := 0) hc (m_X7_refuse hK hR) dX7_brings_24 ml_X7_56 cf_X7_refuse iv_X7_refuse (k_0 hK) (C := RX7) (T := TX7) (N := 7) rfl rfl (Nat.lt_of_succ_le (Nat.le_of_ble_eq_true rfl)) rfl rfl (Nat.le_of_ble_eq_true rfl) ⟨Nat.le_of_ble_eq_true rfl, Nat.le_of_ble_eq_true rfl⟩ rfl (fun q_2 => ?_)
    exact w_ireturnA (v := q_2.1) hc hX dX7_brings_27 rfl rfl rfl rfl
  · refine w_aload_n (q := 12) (i := 0) (j := 0) hc dX7_brings_11 rfl rfl rfl ?_
    refine gf_X7_19 (q := 15) hc dX7_brings_12 (k_0 hK) (r_0_1 hR) rfl ?_
    refine w_iload_n (q := 16) (i := 2) (j := 2) hc dX7_brings_15 rfl rfl rfl ?_
    refine w_callV_Rz (q := 19) (st := []) (args := [.int a2]) (p := 6) hc (m_X2_hasSet hK hR) dX7_brings_16 ml_X7_295 cf_X2_hasSet iv_X2_hasSet (k_6 hK) (C := RX2) (T := TX2) (N := 13) rfl rfl (Nat.lt_of_succ_le (Nat.le_of_ble_eq_true rfl)) rfl rfl (Nat.le_of_ble_eq_true rfl) ⟨Nat.le_of_ble_eq_true rfl, Nat.le_of_ble_eq_true rfl⟩ rfl (fun q_3 => ?_)
    refine w_ifne (q := 22) (tgt := 28) hc dX7_brings_19 rfl rfl ?_ ?_
    · refine w_aload_n (q := 23) (i := 0) (j := 0) hc dX7_brings_22 rfl rfl rfl ?_
      refine w_iconst (q := 24) hc dX7_brings_23 ci_2 rfl ?_
      refine w_callV_Wi (q := 27) (st := []) (args := [.int 2]) (p := 0) hc (m_X7_refuse hK hR) dX7_brings_24 ml_X7_56 cf_X7_refuse iv_X7_refuse (k_0 hK) (C := RX7) (T := TX7) (N := 7) rfl rfl (Nat.lt_of_succ_le (Nat.le_of_ble_eq_true rfl)) rfl rfl (Nat.le_of_ble_eq_true rfl) ⟨Nat.le_of_ble_eq_true rfl, Nat.le_of_ble_eq_true rfl⟩ rfl (fun q_11 => ?_)
      exact w_ireturnA (v := q_11.1) hc hX dX7_brings_27 rfl rfl rfl rfl
    · refine w_aload_n (q := 29) (i := 0) (j := 0) hc dX7_brings_28 rfl rfl rfl ?_
      refine w_callV_Ri (q := 32) (st := []) (args := []) (p := 0) hc (m_X7_hurdle hK hR) dX7_brings_29 ml_X7_196 cf_X7_hurdle iv_X7_hurdle (k_0 hK) (C := RX7) (T := TX7) (N := 7) rfl rfl (Nat.lt_of_succ_le (Nat.le_of_ble_eq_true rfl)) rfl rfl (Nat.le_of_ble_eq_true rfl) ⟨Nat.le_of_ble_eq_true rfl, Nat.le_of_ble_eq_true rfl⟩ rfl (fun q_4 => ?_)
      refine w_istore_n (q := 33) (i := 3) (lv' := [(3, .int q_4), (0, .ref 0), (1, .int a1), (2, .int a2)]) hc dX7_brings_32 rfl (hN 3 rfl) rfl rfl ?_
      refine w_iload_n (q := 34) (i := 3) (j := 0) hc dX7_brings_33 rfl rfl rfl ?_
      refine w_ifeq (q := 37) (tgt := 43) hc dX7_brings_34 rfl rfl ?_ ?_
      · refine w_aload_n (q := 44) (i := 0) (j := 1) hc dX7_brings_43 rfl rfl rfl ?_
        refine gf_X7_19 (q := 47) hc dX7_brings_44 (k_0 hK) (r_0_1 hR) rfl ?_
        refine w_callA_r (q := 50) (st := []) (args := []) (p := 6) hc hX hRm hn m_X2_all dX7_brings_47 ml_X7_301 cf_X2_all iv_X2_all (k_6 hK) (C := RX2) (T := TX2) (N := 13) rfl rfl (Nat.lt_of_succ_le (Nat.le_of_ble_eq_true rfl)) rfl rfl (Nat.le_of_ble_eq_true rfl) ⟨Nat.le_of_ble_eq_true rfl, Nat.le_of_ble_eq_true rfl⟩ rfl rfl rfl (fun q_5 G hc hX hRm hn => ?_)
        have hK := hX.2.2.2.1
        have hR := hX.2.2.2.2.1
        have hN : ∀ i, Nat.blt i 5 = true → i < gnL G := fun i h => hn ▸ Nat.blt_eq.mp h
        refine w_chk (fun hrm_6 => ?_)
        have hrm : q_5.2 ≠ 0 := of_decide_eq_true hrm_6
        refine w_iload_n (q := 51) (i := 1) (j := 2) hc dX7_brings_50 rfl rfl rfl ?_
        refine w_iload_n (q := 52) (i := 2) (j := 3) hc dX7_brings_51 rfl rfl rfl ?_
        refine w_callV_Ri (q := 55) (st := []) (args := [.int a1, .int a2]) (p := 69) hc (m_X4_firstBringing hK hR hrm) dX7_brings_52 ml_X7_307 cf_X4_firstBringing iv_X4_firstBringing (k_69 hK hrm) (C := RX4) (T := TX4) (N := 16) rfl rfl (Nat.lt_of_succ_le (Nat.le_of_ble_eq_true rfl)) rfl rfl (Nat.le_of_ble_eq_true rfl) ⟨Nat.le_of_ble_eq_true rfl, Nat.le_of_ble_eq_true rfl⟩ rfl (fun q_7 => ?_)
        refine w_istore (q := 57) (i := 4) (lv' := [(4, .int q_7), (3, .int q_4), (0, .ref 0), (1, .int a1), (2, .int a2)]) hc dX7_brings_55 (hN 4 rfl) rfl rfl ?_
        refine w_iload (q := 59) (i := 4) (j := 0) hc dX7_brings_57 rfl rfl ?_
        refine w_ifge (q := 62) (tgt := 70) hc dX7_brings_59 rfl rfl ?_ ?_
        · refine w_aload_n (q := 71) (i := 0) (j := 2) hc dX7_brings_70 rfl rfl rfl ?_
          refine w_iload (q := 73) (i := 4) (j := 0) hc dX7_brings_71 rfl rfl ?_
          refine w_callV_Wi (q := 76) (st := []) (args := [.int q_7]) (p := 0) hc (m_X7_tell hK hR) dX7_brings_73 ml_X7_86 cf_X7_tell iv_X7_tell (k_0 hK) (C := RX7) (T := TX7) (N := 7) rfl rfl (Nat.lt_of_succ_le (Nat.le_of_ble_eq_true rfl)) rfl rfl (Nat.le_of_ble_eq_true rfl) ⟨Nat.le_of_ble_eq_true rfl, Nat.le_of_ble_eq_true rfl⟩ rfl (fun q_8 => ?_)
          exact w_ireturnA (v := q_8.1) hc hX dX7_brings_76 rfl rfl rfl rfl
        · refine w_aload_n (q := 63) (i := 0) (j := 2) hc dX7_brings_62 rfl rfl rfl ?_
          refine w_iconst (q := 64) hc dX7_brings_63 ci_5 rfl ?_
          refine w_callV_Wi (q := 67) (st := []) (args := [.int 5]) (p := 0) hc (m_X7_refuse hK hR) dX7_brings_64 ml_X7_56 cf_X7_refuse iv_X7_refuse (k_0 hK) (C := RX7) (T := TX7) (N := 7) rfl rfl (Nat.lt_of_succ_le (Nat.le_of_ble_eq_true rfl)) rfl rfl (Nat.le_of_ble_eq_true rfl) ⟨Nat.le_of_ble_eq_true rfl, Nat.le_of_ble_eq_true rfl⟩ rfl (fun q_9 => ?_)
          refine w_goto (tgt := 76) hc dX7_brings_67 rfl ?_
          exact w_ireturnA (v := q_9.1) hc hX dX7_brings_76 rfl rfl rfl rfl
      · refine w_aload_n (q := 38) (i := 0) (j := 1) hc dX7_brings_37 rfl rfl rfl ?_
        refine w_iload_n (q := 39) (i := 3) (j := 0) hc dX7_brings_38 rfl rfl rfl ?_
        refine w_callV_Wi (q := 42) (st := []) (args := [.int q_4]) (p := 0) hc (m_X7_refuse hK hR) dX7_brings_39 ml_X7_56 cf_X7_refuse iv_X7_refuse (k_0 hK) (C := RX7) (T := TX7) (N := 7) rfl rfl (Nat.lt_of_succ_le (Nat.le_of_ble_eq_true rfl)) rfl rfl (Nat.le_of_ble_eq_true rfl) ⟨Nat.le_of_ble_eq_true rfl, Nat.le_of_ble_eq_true rfl⟩ rfl (fun q_10 => ?_)
        exact w_ireturnA (v := q_10.1) hc hX dX7_brings_42 rfl rfl rfl rfl
set_option maxRecDepth 100000 in
set_option maxHeartbeats 4000000 in
theorem m_X7_block {l : Launch} {K : KT} {R : MR} {rm : Nat} {a1 : Int32} {a2 : Int32} {I : MI} {L : ML} (hK0 : K = lK rm) (hR0 : R = lR rm) : MFg l yX7_block cX7_block 3 (some .int) 3 75 [.ref 0, .int a1, .int a2] K R I L anIW meW (f_X7_block a1 a2 I L) := by
  refine mf_of (plainFor_of_name (by decide)) (Nat.le_of_ble_eq_true rfl) ?_
  intro G hc _ hK1 hR1 hn hq
  have hK := hK1.trans hK0
  have hR := hR1.trans hR0
  have hN : ∀ i, Nat.blt i 3 = true → i < gnL G := fun i h => hn ▸ Nat.blt_eq.mp h
  unfold f_X7_block
  show WW G 0 [(0, .ref 0), (1, .int a1), (2, .int a2)] [] I L _
  refine w_aload_n (q := 1) (i := 0) (j := 0) hc dX7_block_0 rfl rfl rfl ?_
  refine gf_X7_19 (q := 4) hc dX7_block_1 (k_0 hK) (r_0_1 hR) rfl ?_
  refine w_iload_n (q := 5) (i := 1) (j := 1) hc dX7_block_4 rfl rfl rfl ?_
  refine w_callV_Rz (q := 8) (st := []) (args := [.int a1]) (p := 6) hc (m_X2_hasPoint hK hR) dX7_block_5 ml_X7_117 cf_X2_hasPoint iv_X2_hasPoint (k_6 hK) (C := RX2) (T := TX2) (N := 13) rfl rfl (Nat.lt_of_succ_le (Nat.le_of_ble_eq_true rfl)) rfl rfl (Nat.le_of_ble_eq_true rfl) ⟨Nat.le_of_ble_eq_true rfl, Nat.le_of_ble_eq_true rfl⟩ rfl (fun q_1 => ?_)
  refine w_ifeq (q := 11) (tgt := 22) hc dX7_block_8 rfl rfl ?_ ?_
  · refine w_aload_n (q := 23) (i := 0) (j := 0) hc dX7_block_22 rfl rfl rfl ?_
    refine w_iconst (q := 24) hc dX7_block_23 ci_2 rfl ?_
    refine w_callV_Wi (q := 27) (st := []) (args := [.int 2]) (p := 0) hc (m_X7_refuse hK hR) dX7_block_24 ml_X7_56 cf_X7_refuse iv_X7_refuse (k_0 hK) (C := RX7) (T := TX7) (N := 7) rfl rfl (Nat.lt_of_succ_le (Nat.le_of_ble_eq_true rfl)) rfl rfl (Nat.le_of_ble_eq_true rfl) ⟨Nat.le_of_ble_eq_true rfl, Nat.le_of_ble_eq_true rfl⟩ rfl (fun q_2 => ?_)
    exact w_ireturn (v := q_2.1) hc hq dX7_block_27 rfl rfl rfl
  · refine w_aload_n (q := 12) (i := 0) (j := 0) hc dX7_block_11 rfl rfl rfl ?_
    refine gf_X7_19 (q := 15) hc dX7_block_12 (k_0 hK) (r_0_1 hR) rfl ?_
    refine w_iload_n (q := 16) (i := 2) (j := 2) hc dX7_block_15 rfl rfl rfl ?_
    refine w_callV_Rz (q := 19) (st := []) (args := [.int a2]) (p := 6) hc (m_X2_hasPoint hK hR) dX7_block_16 ml_X7_117 cf_X2_hasPoint iv_X2_hasPoint (k_6 hK) (C := RX2) (T := TX2) (N := 13) rfl rfl (Nat.lt_of_succ_le (Nat.le_of_ble_eq_true rfl)) rfl rfl (Nat.le_of_ble_eq_true rfl) ⟨Nat.le_of_ble_eq_true rfl, Nat.le_of_ble_eq_true rfl⟩ rfl (fun q_3 => ?_)
    refine w_ifne (q := 22) (tgt := 28) hc dX7_block_19 rfl rfl ?_ ?_
    · refine w_aload_n (q := 23) (i := 0) (j := 0) hc dX7_block_22 rfl rfl rfl ?_
      refine w_iconst (q := 24) hc dX7_block_23 ci_2 rfl ?_
      refine w_callV_Wi (q := 27) (st := []) (args := [.int 2]) (p := 0) hc (m_X7_refuse hK hR) dX7_block_24 ml_X7_56 cf_X7_refuse iv_X7_refuse (k_0 hK) (C := RX7) (T := TX7) (N := 7) rfl rfl (Nat.lt_of_succ_le (Nat.le_of_ble_eq_true rfl)) rfl rfl (Nat.le_of_ble_eq_true rfl) ⟨Nat.le_of_ble_eq_true rfl, Nat.le_of_ble_eq_true rfl⟩ rfl (fun q_7 => ?_)
      exact w_ireturn (v := q_7.1) hc hq dX7_block_27 rfl rfl rfl
    · refine w_iload_n (q := 29) (i := 1) (j := 1) hc dX7_block_28 rfl rfl rfl ?_
      refine w_iload_n (q := 30) (i := 2) (j := 2) hc dX7_block_29 rfl rfl rfl ?_
      refine w_icmpne (q := 33) (tgt := 39) hc dX7_block_30 rfl rfl ?_ ?_
      · refine w_aload_n (q := 34) (i := 0) (j := 0) hc dX7_block_33 rfl rfl rfl ?_
        refine w_iconst (q := 35) hc dX7_block_34 ci_4 rfl ?_
        refine w_callV_Wi (q := 38) (st := []) (args := [.int 4]) (p := 0) hc (m_X7_refuse hK hR) dX7_block_35 ml_X7_56 cf_X7_refuse iv_X7_refuse (k_0 hK) (C := RX7) (T := TX7) (N := 7) rfl rfl (Nat.lt_of_succ_le (Nat.le_of_ble_eq_true rfl)) rfl rfl (Nat.le_of_ble_eq_true rfl) ⟨Nat.le_of_ble_eq_true rfl, Nat.le_of_ble_eq_true rfl⟩ rfl (fun q_6 => ?_)
        exact w_ireturn (v := q_6.1) hc hq dX7_block_38 rfl rfl rfl
      · refine w_aload_n (q := 40) (i := 0) (j := 0) hc dX7_block_39 rfl rfl rfl ?_
        refine w_aload_n (q := 41) (i := 0) (j := 0) hc dX7_block_40 rfl rfl rfl ?_
        refine gf_X7_19 (q := 44) hc dX7_block_41 (k_0 hK) (r_0_1 hR) rfl ?_
        refine w_iload_n (q := 45) (i := 1) (j := 1) hc dX7_block_44 rfl rfl rfl ?_
        refine w_iload_n (q := 46) (i := 2) (j := 2) hc dX7_block_45 rfl rfl rfl ?_
        refine w_callV_Wi (q := 49) (st := [.ref 0]) (args := [.int a1, .int a2]) (p := 6) hc (m_X2_blockOf hK hR) dX7_block_46 ml_X7_310 cf_X2_blockOf iv_X2_blockOf (k_6 hK) (C := RX2) (T := TX2) (N := 13) rfl rfl (Nat.lt_of_succ_le (Nat.le_of_ble_eq_true rfl)) rfl rfl (Nat.le_of_ble_eq_true rfl) ⟨Nat.le_of_ble_eq_true rfl, Nat.le_of_ble_eq_true rfl⟩ rfl (fun q_4 => ?_)
        refine w_callV_Wi (q := 52) (st := []) (args := [.int q_4.1]) (p := 0) hc (m_X7_tell hK hR) dX7_block_49 ml_X7_86 cf_X7_tell iv_X7_tell (k_0 hK) (C := RX7) (T := TX7) (N := 7) rfl rfl (Nat.lt_of_succ_le (Nat.le_of_ble_eq_true rfl)) rfl rfl (Nat.le_of_ble_eq_true rfl) ⟨Nat.le_of_ble_eq_true rfl, Nat.le_of_ble_eq_true rfl⟩ rfl (fun q_5 => ?_)
        exact w_ireturn (v := q_5.1) hc hq dX7_block_52 rfl rfl rfl
set_option maxRecDepth 100000 in
set_option maxHeartbeats 4000000 in
theorem m_X7_anywhere {l : Launch} {K : KT} {R : MR} {rm : Nat} {I : MI} {L : ML} (hK0 : K = lK rm) (hR0 : R = lR rm) : MFg l yX7_anywhere cX7_anywhere 1 (some .int) 2 41 [.ref 0] K R I L anIW meW (f_X7_anywhere I L) := by
  refine mf_of (plainFor_of_name (by decide)) (Nat.le_of_ble_eq_true rfl) ?_
  intro G hc _ hK1 hR1 hn hq
  have hK := hK1.trans hK0
  have hR := hR1.trans hR0
  have hN : ∀ i, Nat.blt i 1 = true → i < gnL G := fun i h => hn ▸ Nat.blt_eq.mp h
  unfold f_X7_anywhere
  show WW G 0 [(0, .ref 0)] [] I L _
  refine w_aload_n (q := 1) (i := 0) (j := 0) hc dX7_anywhere_0 rfl rfl rfl ?_
  refine gf_X7_19 (q := 4) hc dX7_anywhere_1 (k_0 hK) (r_0_1 hR) rfl ?_
  refine gf_X7_95 (q := 7) hc dX7_anywhere_4 (k_6 hK) rfl ?_
  refine w_ifne (q := 10) (tgt := 16) hc dX7_anywhere_7 rfl rfl ?_ ?_
  · refine w_aload_n (q := 11) (i := 0) (j := 0) hc dX7_anywhere_10 rfl rfl rfl ?_
    refine w_iconst (q := 12) hc dX7_anywhere_11 ci_5 rfl ?_
    refine w_callV_Wi (q := 15) (st := []) (args := [.int 5]) (p := 0) hc (m_X7_refuse hK hR) dX7_anywhere_12 ml_X7_56 cf_X7_refuse iv_X7_refuse (k_0 hK) (C := RX7) (T := TX7) (N := 7) rfl rfl (Nat.lt_of_succ_le (Nat.le_of_ble_eq_true rfl)) rfl rfl (Nat.le_of_ble_eq_true rfl) ⟨Nat.le_of_ble_eq_true rfl, Nat.le_of_ble_eq_true rfl⟩ rfl (fun q_3 => ?_)
    exact w_ireturn (v := q_3.1) hc hq dX7_anywhere_15 rfl rfl rfl
  · refine w_aload_n (q := 17) (i := 0) (j := 0) hc dX7_anywhere_16 rfl rfl rfl ?_
    refine w_aload_n (q := 18) (i := 0) (j := 0) hc dX7_anywhere_17 rfl rfl rfl ?_
    refine gf_X7_19 (q := 21) hc dX7_anywhere_18 (k_0 hK) (r_0_1 hR) rfl ?_
    refine gf_X7_163 (q := 24) hc dX7_anywhere_21 (k_6 hK) (r_6_3 hR) rfl ?_
    refine w_callV_Ri (q := 27) (st := [.ref 0]) (args := []) (p := 8) hc (m_X0_countFree hK hR (ch_8)) dX7_anywhere_24 ml_X7_313 cf_X0_countFree iv_X0_countFree (k_8 hK) (C := RX0) (T := TX0) (N := 8) rfl rfl (Nat.lt_of_succ_le (Nat.le_of_ble_eq_true rfl)) rfl rfl (Nat.le_of_ble_eq_true rfl) ⟨Nat.le_of_ble_eq_true rfl, Nat.le_of_ble_eq_true rfl⟩ rfl (fun q_1 => ?_)
    refine w_callV_Wi (q := 30) (st := []) (args := [.int q_1]) (p := 0) hc (m_X7_tell hK hR) dX7_anywhere_27 ml_X7_86 cf_X7_tell iv_X7_tell (k_0 hK) (C := RX7) (T := TX7) (N := 7) rfl rfl (Nat.lt_of_succ_le (Nat.le_of_ble_eq_true rfl)) rfl rfl (Nat.le_of_ble_eq_true rfl) ⟨Nat.le_of_ble_eq_true rfl, Nat.le_of_ble_eq_true rfl⟩ rfl (fun q_2 => ?_)
    exact w_ireturn (v := q_2.1) hc hq dX7_anywhere_30 rfl rfl rfl
set_option maxRecDepth 100000 in
set_option maxHeartbeats 4000000 in
theorem m_X7_fixing {l : Launch} {rm : Nat} {a1 : Int32} {I : MI} {L : ML} : MFa l yX7_fixing cX7_fixing 3 (some .int) 5 128 [.ref 0, .int a1] rm I L anIA meA roA (f_X7_fixing rm a1 I L) := by
  refine mfa_of (plainFor_of_name (by decide)) (Nat.le_of_ble_eq_true rfl) ?_
  intro G ad0 hc hX hRm hn
  have hK := hX.2.2.2.1
  have hR := hX.2.2.2.2.1
  have hN : ∀ i, Nat.blt i 3 = true → i < gnL G := fun i h => hn ▸ Nat.blt_eq.mp h
  unfold f_X7_fixing
  show WW G 0 [(0, .ref 0), (1, .int a1)] [] I L _
  refine w_iload_n (q := 1) (i := 1) (j := 1) hc dX7_fixing_0 rfl rfl rfl ?_
  refine w_iflt (q := 4) (tgt := 10) hc dX7_fixing_1 rfl rfl ?_ ?_
  · refine w_aload_n (q := 11) (i := 0) (j := 0) hc dX7_fixing_10 rfl rfl rfl ?_
    refine w_iconst (q := 12) hc dX7_fixing_11 ci_1 rfl ?_
    refine w_callV_Wi (q := 15) (st := []) (args := [.int 1]) (p := 0) hc (m_X7_refuse hK hR) dX7_fixing_12 ml_X7_56 cf_X7_refuse iv_X7_refuse (k_0 hK) (C := RX7) (T := TX7) (N := 7) rfl rfl (Nat.lt_of_succ_le (Nat.le_of_ble_eq_true rfl)) rfl rfl (Nat.le_of_ble_eq_true rfl) ⟨Nat.le_of_ble_eq_true rfl, Nat.le_of_ble_eq_true rfl⟩ rfl (fun q_1 => ?_)
    exact w_ireturnA (v := q_1.1) hc hX dX7_fixing_15 rfl rfl rfl rfl
  · refine w_iload_n (q := 5) (i := 1) (j := 1) hc dX7_fixing_4 rfl rfl rfl ?_
    refine w_bipush (q := 7) hc dX7_fixing_5 cb_10 rfl ?_
    refine w_icmple (q := 10) (tgt := 16) hc dX7_fixing_7 rfl rfl ?_ ?_
    · refine w_aload_n (q := 17) (i := 0) (j := 0) hc dX7_fixing_16 rfl rfl rfl ?_
      refine w_callV_Ri (q := 20) (st := []) (args := []) (p := 0) hc (m_X7_hurdle hK hR) dX7_fixing_17 ml_X7_196 cf_X7_hurdle iv_X7_hurdle (k_0 hK) (C := RX7) (T := TX7) (N := 7) rfl rfl (Nat.lt_of_succ_le (Nat.le_of_ble_eq_true rfl)) rfl rfl (Nat.le_of_ble_eq_true rfl) ⟨Nat.le_of_ble_eq_true rfl, Nat.le_of_ble_eq_true rfl⟩ rfl (fun q_2 => ?_)
      refine w_istore_n (q := 21) (i := 2) (lv' := [(2, .int q_2), (0, .ref 0), (1, .int a1)]) hc dX7_fixing_20 rfl (hN 2 rfl) rfl rfl ?_
      refine w_iload_n (q := 22) (i := 2) (j := 0) hc dX7_fixing_21 rfl rfl rfl ?_
      refine w_ifeq (q := 25) (tgt := 31) hc dX7_fixing_22 rfl rfl ?_ ?_
      · refine w_aload_n (q := 32) (i := 0) (j := 1) hc dX7_fixing_31 rfl rfl rfl ?_
        refine w_aload_n (q := 33) (i := 0) (j := 1) hc dX7_fixing_32 rfl rfl rfl ?_
        refine gf_X7_19 (q := 36) hc dX7_fixing_33 (k_0 hK) (r_0_1 hR) rfl ?_
        refine w_callA_r (q := 39) (st := [.ref 0]) (args := []) (p := 6) hc hX hRm hn m_X2_shaped dX7_fixing_36 ml_X7_316 cf_X2_shaped iv_X2_shaped (k_6 hK) (C := RX2) (T := TX2) (N := 13) rfl rfl (Nat.lt_of_succ_le (Nat.le_of_ble_eq_true rfl)) rfl rfl (Nat.le_of_ble_eq_true rfl) ⟨Nat.le_of_ble_eq_true rfl, Nat.le_of_ble_eq_true rfl⟩ rfl rfl rfl (fun q_3 G hc hX hRm hn => ?_)
        have hK := hX.2.2.2.1
        have hR := hX.2.2.2.2.1
        have hN : ∀ i, Nat.blt i 3 = true → i < gnL G := fun i h => hn ▸ Nat.blt_eq.mp h
        refine w_chk (fun hrm_4 => ?_)
        have hrm : q_3.2 ≠ 0 := of_decide_eq_true hrm_4
        refine w_iload_n (q := 40) (i := 1) (j := 2) hc dX7_fixing_39 rfl rfl rfl ?_
        refine w_callV_Ri (q := 43) (st := [.ref 0]) (args := [.int a1]) (p := 69) hc (m_X4_countStaying hK hR hrm) dX7_fixing_40 ml_X7_319 cf_X4_countStaying iv_X4_countStaying (k_69 hK hrm) (C := RX4) (T := TX4) (N := 16) rfl rfl (Nat.lt_of_succ_le (Nat.le_of_ble_eq_true rfl)) rfl rfl (Nat.le_of_ble_eq_true rfl) ⟨Nat.le_of_ble_eq_true rfl, Nat.le_of_ble_eq_true rfl⟩ rfl (fun q_5 => ?_)
        refine w_callV_Wi (q := 46) (st := []) (args := [.int q_5]) (p := 0) hc (m_X7_tell hK hR) dX7_fixing_43 ml_X7_86 cf_X7_tell iv_X7_tell (k_0 hK) (C := RX7) (T := TX7) (N := 7) rfl rfl (Nat.lt_of_succ_le (Nat.le_of_ble_eq_true rfl)) rfl rfl (Nat.le_of_ble_eq_true rfl) ⟨Nat.le_of_ble_eq_true rfl, Nat.le_of_ble_eq_true rfl⟩ rfl (fun q_6 => ?_)
        exact w_ireturnA (v := q_6.1) hc hX dX7_fixing_46 rfl rfl rfl rfl
      · refine w_aload_n (q := 26) (i := 0) (j := 1) hc dX7_fixing_25 rfl rfl rfl ?_
        refine w_iload_n (q := 27) (i := 2) (j := 0) hc dX7_fixing_26 rfl rfl rfl ?_
        refine w_callV_Wi (q := 30) (st := []) (args := [.int q_2]) (p := 0) hc (m_X7_refuse hK hR) dX7_fixing_27 ml_X7_56 cf_X7_refuse iv_X7_refuse (k_0 hK) (C := RX7) (T := TX7) (N := 7) rfl rfl (Nat.lt_of_succ_le (Nat.le_of_ble_eq_true rfl)) rfl rfl (Nat.le_of_ble_eq_true rfl) ⟨Nat.le_of_ble_eq_true rfl, Nat.le_of_ble_eq_true rfl⟩ rfl (fun q_7 => ?_)
        exact w_ireturnA (v := q_7.1) hc hX dX7_fixing_30 rfl rfl rfl rfl
    · refine w_aload_n (q := 11) (i := 0) (j := 0) hc dX7_fixing_10 rfl rfl rfl ?_
      refine w_iconst (q := 12) hc dX7_fixing_11 ci_1 rfl ?_
      refine w_callV_Wi (q := 15) (st := []) (args := [.int 1]) (p := 0) hc (m_X7_refuse hK hR) dX7_fixing_12 ml_X7_56 cf_X7_refuse iv_X7_refuse (k_0 hK) (C := RX7) (T := TX7) (N := 7) rfl rfl (Nat.lt_of_succ_le (Nat.le_of_ble_eq_true rfl)) rfl rfl (Nat.le_of_ble_eq_true rfl) ⟨Nat.le_of_ble_eq_true rfl, Nat.le_of_ble_eq_true rfl⟩ rfl (fun q_8 => ?_)
      exact w_ireturnA (v := q_8.1) hc hX dX7_fixing_15 rfl rfl rfl rfl
set_option maxRecDepth 100000 in
set_option maxHeartbeats 4000000 in
theorem m_X7_colours {l : Launch} {rm : Nat} {a1 : Int32} {I : MI} {L : ML} : MFa l yX7_colours cX7_colours 3 (some .long) 5 128 [.ref 0, .int a1] rm I L anLA meA roA (f_X7_colours rm a1 I L) := by
  refine mfa_of (plainFor_of_name (by decide)) (Nat.le_of_ble_eq_true rfl) ?_
  intro G ad0 hc hX hRm hn
  have hK := hX.2.2.2.1
  have hR := hX.2.2.2.2.1
  have hN : ∀ i, Nat.blt i 3 = true → i < gnL G := fun i h => hn ▸ Nat.blt_eq.mp h
  unfold f_X7_colours
  show WW G 0 [(0, .ref 0), (1, .int a1)] [] I L _
  refine w_iload_n (q := 1) (i := 1) (j := 1) hc dX7_colours_0 rfl rfl rfl ?_
  refine w_iconst (q := 2) hc dX7_colours_1 ci_1 rfl ?_
  refine w_icmplt (q := 5) (tgt := 10) hc dX7_colours_2 rfl rfl ?_ ?_
  · refine w_aload_n (q := 11) (i := 0) (j := 0) hc dX7_colours_10 rfl rfl rfl ?_
    refine w_iconst (q := 12) hc dX7_colours_11 ci_1 rfl ?_
    refine w_callV_Wi (q := 15) (st := []) (args := [.int 1]) (p := 0) hc (m_X7_refuse hK hR) dX7_colours_12 ml_X7_56 cf_X7_refuse iv_X7_refuse (k_0 hK) (C := RX7) (T := TX7) (N := 7) rfl rfl (Nat.lt_of_succ_le (Nat.le_of_ble_eq_true rfl)) rfl rfl (Nat.le_of_ble_eq_true rfl) ⟨Nat.le_of_ble_eq_true rfl, Nat.le_of_ble_eq_true rfl⟩ rfl (fun q_1 => ?_)
    refine w_i2l (q := 16) hc dX7_colours_15  rfl ?_
    exact w_lreturnA hc hX dX7_colours_16 rfl rfl rfl
  · refine w_iload_n (q := 6) (i := 1) (j := 1) hc dX7_colours_5 rfl rfl rfl ?_
    refine w_iconst (q := 7) hc dX7_colours_6 ci_5 rfl ?_
    refine w_icmple (q := 10) (tgt := 17) hc dX7_colours_7 rfl rfl ?_ ?_
    · refine w_aload_n (q := 18) (i := 0) (j := 0) hc dX7_colours_17 rfl rfl rfl ?_
      refine w_callV_Ri (q := 21) (st := []) (args := []) (p := 0) hc (m_X7_hurdle hK hR) dX7_colours_18 ml_X7_196 cf_X7_hurdle iv_X7_hurdle (k_0 hK) (C := RX7) (T := TX7) (N := 7) rfl rfl (Nat.lt_of_succ_le (Nat.le_of_ble_eq_true rfl)) rfl rfl (Nat.le_of_ble_eq_true rfl) ⟨Nat.le_of_ble_eq_true rfl, Nat.le_of_ble_eq_true rfl⟩ rfl (fun q_2 => ?_)
      refine w_istore_n (q := 22) (i := 2) (lv' := [(2, .int q_2), (0, .ref 0), (1, .int a1)]) hc dX7_colours_21 rfl (hN 2 rfl) rfl rfl ?_
      refine w_iload_n (q := 23) (i := 2) (j := 0) hc dX7_colours_22 rfl rfl rfl ?_
      refine w_ifeq (q := 26) (tgt := 33) hc dX7_colours_23 rfl rfl ?_ ?_
      · refine w_aload_n (q := 34) (i := 0) (j := 1) hc dX7_colours_33 rfl rfl rfl ?_
        refine w_iconst (q := 35) hc dX7_colours_34 ci_0 rfl ?_
        refine pf_X7_42 (q := 38) hc dX7_colours_35 (k_0 hK) rfl (fun I_3 => ?_)
        refine w_aload_n (q := 39) (i := 0) (j := 1) hc dX7_colours_38 rfl rfl rfl ?_
        refine gf_X7_19 (q := 42) hc dX7_colours_39 (k_0 hK) (r_0_1 hR) rfl ?_
        refine w_callA_r (q := 45) (st := []) (args := []) (p := 6) hc hX hRm hn m_X2_shaped dX7_colours_42 ml_X7_316 cf_X2_shaped iv_X2_shaped (k_6 hK) (C := RX2) (T := TX2) (N := 13) rfl rfl (Nat.lt_of_succ_le (Nat.le_of_ble_eq_true rfl)) rfl rfl (Nat.le_of_ble_eq_true rfl) ⟨Nat.le_of_ble_eq_true rfl, Nat.le_of_ble_eq_true rfl⟩ rfl rfl rfl (fun q_4 G hc hX hRm hn => ?_)
        have hK := hX.2.2.2.1
        have hR := hX.2.2.2.2.1
        have hN : ∀ i, Nat.blt i 3 = true → i < gnL G := fun i h => hn ▸ Nat.blt_eq.mp h
        refine w_chk (fun hrm_5 => ?_)
        have hrm : q_4.2 ≠ 0 := of_decide_eq_true hrm_5
        refine w_iload_n (q := 46) (i := 1) (j := 2) hc dX7_colours_45 rfl rfl rfl ?_
        refine w_callV_Rl (q := 49) (st := []) (args := [.int a1]) (p := 69) hc (m_X4_countColourings hK hR hrm) dX7_colours_46 ml_X7_322 cf_X4_countColourings iv_X4_countColourings (k_69 hK hrm) (C := RX4) (T := TX4) (N := 16) rfl rfl (Nat.lt_of_succ_le (Nat.le_of_ble_eq_true rfl)) rfl rfl (Nat.le_of_ble_eq_true rfl) ⟨Nat.le_of_ble_eq_true rfl, Nat.le_of_ble_eq_true rfl⟩ rfl (fun q_6 => ?_)
        exact w_lreturnA hc hX dX7_colours_49 rfl rfl rfl
      · refine w_aload_n (q := 27) (i := 0) (j := 1) hc dX7_colours_26 rfl rfl rfl ?_
        refine w_iload_n (q := 28) (i := 2) (j := 0) hc dX7_colours_27 rfl rfl rfl ?_
        refine w_callV_Wi (q := 31) (st := []) (args := [.int q_2]) (p := 0) hc (m_X7_refuse hK hR) dX7_colours_28 ml_X7_56 cf_X7_refuse iv_X7_refuse (k_0 hK) (C := RX7) (T := TX7) (N := 7) rfl rfl (Nat.lt_of_succ_le (Nat.le_of_ble_eq_true rfl)) rfl rfl (Nat.le_of_ble_eq_true rfl) ⟨Nat.le_of_ble_eq_true rfl, Nat.le_of_ble_eq_true rfl⟩ rfl (fun q_7 => ?_)
        refine w_i2l (q := 32) hc dX7_colours_31  rfl ?_
        exact w_lreturnA hc hX dX7_colours_32 rfl rfl rfl
    · refine w_aload_n (q := 11) (i := 0) (j := 0) hc dX7_colours_10 rfl rfl rfl ?_
      refine w_iconst (q := 12) hc dX7_colours_11 ci_1 rfl ?_
      refine w_callV_Wi (q := 15) (st := []) (args := [.int 1]) (p := 0) hc (m_X7_refuse hK hR) dX7_colours_12 ml_X7_56 cf_X7_refuse iv_X7_refuse (k_0 hK) (C := RX7) (T := TX7) (N := 7) rfl rfl (Nat.lt_of_succ_le (Nat.le_of_ble_eq_true rfl)) rfl rfl (Nat.le_of_ble_eq_true rfl) ⟨Nat.le_of_ble_eq_true rfl, Nat.le_of_ble_eq_true rfl⟩ rfl (fun q_8 => ?_)
      refine w_i2l (q := 16) hc dX7_colours_15  rfl ?_
      exact w_lreturnA hc hX dX7_colours_16 rfl rfl rfl
set_option maxRecDepth 100000 in
set_option maxHeartbeats 4000000 in
theorem m_X7_typed {l : Launch} {rm : Nat} {a1 : Int64} {I : MI} {L : ML} : MFa l yX7_typed cX7_typed 6 (some .int) 5 128 [.ref 0, .long a1] rm I L anIA meA roA (f_X7_typed rm a1 I L) := by
  refine mfa_of (plainFor_of_name (by decide)) (Nat.le_of_ble_eq_true rfl) ?_
  intro G ad0 hc hX hRm hn
  have hK := hX.2.2.2.1
  have hR := hX.2.2.2.2.1
  have hN : ∀ i, Nat.blt i 6 = true → i < gnL G := fun i h => hn ▸ Nat.blt_eq.mp h
  unfold f_X7_typed
  show WW G 0 [(0, .ref 0), (1, .long a1)] [] I L _
  refine w_aload_n (q := 1) (i := 0) (j := 0) hc dX7_typed_0 rfl rfl rfl ?_
  refine w_lload_n (q := 2) (i := 1) (j := 1) hc dX7_typed_1 rfl rfl rfl ?_
  refine w_callV_Rl (q := 5) (st := []) (args := [.long a1]) (p := 0) hc (m_X7_read hK hR) dX7_typed_2 ml_X7_114 cf_X7_read iv_X7_read (k_0 hK) (C := RX7) (T := TX7) (N := 7) rfl rfl (Nat.lt_of_succ_le (Nat.le_of_ble_eq_true rfl)) rfl rfl (Nat.le_of_ble_eq_true rfl) ⟨Nat.le_of_ble_eq_true rfl, Nat.le_of_ble_eq_true rfl⟩ rfl (fun q_1 => ?_)
  refine w_lstore_n (q := 6) (i := 3) (lv' := [(3, .long q_1), (0, .ref 0), (1, .long a1)]) hc dX7_typed_5 rfl (hN 4 rfl) rfl rfl ?_
  refine w_lload_n (q := 7) (i := 3) (j := 0) hc dX7_typed_6 rfl rfl rfl ?_
  refine w_lconst (q := 8) hc dX7_typed_7 cl_0 rfl ?_
  refine w_lcmp (q := 9) hc dX7_typed_8  rfl ?_
  refine w_ifge (q := 12) (tgt := 18) hc dX7_typed_9 rfl rfl ?_ ?_
  · refine w_aload_n (q := 19) (i := 0) (j := 1) hc dX7_typed_18 rfl rfl rfl ?_
    refine w_callV_Ri (q := 22) (st := []) (args := []) (p := 0) hc (m_X7_hurdle hK hR) dX7_typed_19 ml_X7_196 cf_X7_hurdle iv_X7_hurdle (k_0 hK) (C := RX7) (T := TX7) (N := 7) rfl rfl (Nat.lt_of_succ_le (Nat.le_of_ble_eq_true rfl)) rfl rfl (Nat.le_of_ble_eq_true rfl) ⟨Nat.le_of_ble_eq_true rfl, Nat.le_of_ble_eq_true rfl⟩ rfl (fun q_2 => ?_)
    refine w_istore (q := 24) (i := 5) (lv' := [(5, .int q_2), (3, .long q_1), (0, .ref 0), (1, .long a1)]) hc dX7_typed_22 (hN 5 rfl) rfl rfl ?_
    refine w_iload (q := 26) (i := 5) (j := 0) hc dX7_typed_24 rfl rfl ?_
    refine w_ifeq (q := 29) (tgt := 36) hc dX7_typed_26 rfl rfl ?_ ?_
    · refine w_aload_n (q := 37) (i := 0) (j := 2) hc dX7_typed_36 rfl rfl rfl ?_
      refine w_aload_n (q := 38) (i := 0) (j := 2) hc dX7_typed_37 rfl rfl rfl ?_
      refine gf_X7_19 (q := 41) hc dX7_typed_38 (k_0 hK) (r_0_1 hR) rfl ?_
      refine w_callA_r (q := 44) (st := [.ref 0]) (args := []) (p := 6) hc hX hRm hn m_X2_shaped dX7_typed_41 ml_X7_316 cf_X2_shaped iv_X2_shaped (k_6 hK) (C := RX2) (T := TX2) (N := 13) rfl rfl (Nat.lt_of_succ_le (Nat.le_of_ble_eq_true rfl)) rfl rfl (Nat.le_of_ble_eq_true rfl) ⟨Nat.le_of_ble_eq_true rfl, Nat.le_of_ble_eq_true rfl⟩ rfl rfl rfl (fun q_3 G hc hX hRm hn => ?_)
      have hK := hX.2.2.2.1
      have hR := hX.2.2.2.2.1
      have hN : ∀ i, Nat.blt i 6 = true → i < gnL G := fun i h => hn ▸ Nat.blt_eq.mp h
      refine w_chk (fun hrm_4 => ?_)
      have hrm : q_3.2 ≠ 0 := of_decide_eq_true hrm_4
      refine w_lload_n (q := 45) (i := 3) (j := 1) hc dX7_typed_44 rfl rfl rfl ?_
      refine w_aload_n (q := 46) (i := 0) (j := 2) hc dX7_typed_45 rfl rfl rfl ?_
      refine gf_X7_19 (q := 49) hc dX7_typed_46 (k_0 hK) (r_0_1 hR) rfl ?_
      refine gf_X7_95 (q := 52) hc dX7_typed_49 (k_6 hK) rfl ?_
      refine w_callS_Rl (q := 55) (st := [.ref 69, .ref 0]) (args := [.long q_1, .int (q_3.1.1 6 0)]) hc (m_X6_shape hK hR) dX7_typed_52 ml_X7_136 cf_X6_shape st_X6_shape rfl rfl (Nat.le_of_ble_eq_true rfl) ⟨Nat.le_of_ble_eq_true rfl, Nat.le_of_ble_eq_true rfl⟩ rfl (fun q_5 => ?_)
      refine w_callV_Ri (q := 58) (st := [.ref 0]) (args := [.long q_5]) (p := 69) hc (m_X4_countShaped hK hR hrm) dX7_typed_55 ml_X7_325 cf_X4_countShaped iv_X4_countShaped (k_69 hK hrm) (C := RX4) (T := TX4) (N := 16) rfl rfl (Nat.lt_of_succ_le (Nat.le_of_ble_eq_true rfl)) rfl rfl (Nat.le_of_ble_eq_true rfl) ⟨Nat.le_of_ble_eq_true rfl, Nat.le_of_ble_eq_true rfl⟩ rfl (fun q_6 => ?_)
      refine w_callV_Wi (q := 61) (st := []) (args := [.int q_6]) (p := 0) hc (m_X7_tell hK hR) dX7_typed_58 ml_X7_86 cf_X7_tell iv_X7_tell (k_0 hK) (C := RX7) (T := TX7) (N := 7) rfl rfl (Nat.lt_of_succ_le (Nat.le_of_ble_eq_true rfl)) rfl rfl (Nat.le_of_ble_eq_true rfl) ⟨Nat.le_of_ble_eq_true rfl, Nat.le_of_ble_eq_true rfl⟩ rfl (fun q_7 => ?_)
      exact w_ireturnA (v := q_7.1) hc hX dX7_typed_61 rfl rfl rfl rfl
    · refine w_aload_n (q := 30) (i := 0) (j := 2) hc dX7_typed_29 rfl rfl rfl ?_
      refine w_iload (q := 32) (i := 5) (j := 0) hc dX7_typed_30 rfl rfl ?_
      refine w_callV_Wi (q := 35) (st := []) (args := [.int q_2]) (p := 0) hc (m_X7_refuse hK hR) dX7_typed_32 ml_X7_56 cf_X7_refuse iv_X7_refuse (k_0 hK) (C := RX7) (T := TX7) (N := 7) rfl rfl (Nat.lt_of_succ_le (Nat.le_of_ble_eq_true rfl)) rfl rfl (Nat.le_of_ble_eq_true rfl) ⟨Nat.le_of_ble_eq_true rfl, Nat.le_of_ble_eq_true rfl⟩ rfl (fun q_8 => ?_)
      exact w_ireturnA (v := q_8.1) hc hX dX7_typed_35 rfl rfl rfl rfl
  · refine w_aload_n (q := 13) (i := 0) (j := 1) hc dX7_typed_12 rfl rfl rfl ?_
    refine w_iconst (q := 14) hc dX7_typed_13 ci_1 rfl ?_
    refine w_callV_Wi (q := 17) (st := []) (args := [.int 1]) (p := 0) hc (m_X7_refuse hK hR) dX7_typed_14 ml_X7_56 cf_X7_refuse iv_X7_refuse (k_0 hK) (C := RX7) (T := TX7) (N := 7) rfl rfl (Nat.lt_of_succ_le (Nat.le_of_ble_eq_true rfl)) rfl rfl (Nat.le_of_ble_eq_true rfl) ⟨Nat.le_of_ble_eq_true rfl, Nat.le_of_ble_eq_true rfl⟩ rfl (fun q_9 => ?_)
    exact w_ireturnA (v := q_9.1) hc hX dX7_typed_17 rfl rfl rfl rfl
set_option maxRecDepth 100000 in
set_option maxHeartbeats 4000000 in
theorem m_X7_root {l : Launch} {rm : Nat} {a1 : Int64} {a3 : Int32} {I : MI} {L : ML} : MFa l yX7_root cX7_root 8 (some .int) 5 107 [.ref 0, .long a1, .int a3] rm I L anIA meA roA (f_X7_root rm a1 a3 I L) := by
  refine mfa_of (plainFor_of_name (by decide)) (Nat.le_of_ble_eq_true rfl) ?_
  intro G ad0 hc hX hRm hn
  have hK := hX.2.2.2.1
  have hR := hX.2.2.2.2.1
  have hN : ∀ i, Nat.blt i 8 = true → i < gnL G := fun i h => hn ▸ Nat.blt_eq.mp h
  unfold f_X7_root
  show WW G 0 [(0, .ref 0), (1, .long a1), (3, .int a3)] [] I L _
  refine w_aload_n (q := 1) (i := 0) (j := 0) hc dX7_root_0 rfl rfl rfl ?_
  refine w_lload_n (q := 2) (i := 1) (j := 1) hc dX7_root_1 rfl rfl rfl ?_
  refine w_callV_Rl (q := 5) (st := []) (args := [.long a1]) (p := 0) hc (m_X7_read hK hR) dX7_root_2 ml_X7_114 cf_X7_read iv_X7_read (k_0 hK) (C := RX7) (T := TX7) (N := 7) rfl rfl (Nat.lt_of_succ_le (Nat.le_of_ble_eq_true rfl)) rfl rfl (Nat.le_of_ble_eq_true rfl) ⟨Nat.le_of_ble_eq_true rfl, Nat.le_of_ble_eq_true rfl⟩ rfl (fun q_1 => ?_)
  refine w_lstore (q := 7) (i := 4) (lv' := [(4, .long q_1), (0, .ref 0), (1, .long a1), (3, .int a3)]) hc dX7_root_5 (hN 5 rfl) rfl rfl ?_
  refine w_lload (q := 9) (i := 4) (j := 0) hc dX7_root_7 rfl rfl ?_
  refine w_lconst (q := 10) hc dX7_root_9 cl_0 rfl ?_
  refine w_lcmp (q := 11) hc dX7_root_10  rfl ?_
  refine w_iflt (q := 14) (tgt := 26) hc dX7_root_11 rfl rfl ?_ ?_
  · refine w_aload_n (q := 27) (i := 0) (j := 1) hc dX7_root_26 rfl rfl rfl ?_
    refine w_iconst (q := 28) hc dX7_root_27 ci_1 rfl ?_
    refine w_callV_Wi (q := 31) (st := []) (args := [.int 1]) (p := 0) hc (m_X7_refuse hK hR) dX7_root_28 ml_X7_56 cf_X7_refuse iv_X7_refuse (k_0 hK) (C := RX7) (T := TX7) (N := 7) rfl rfl (Nat.lt_of_succ_le (Nat.le_of_ble_eq_true rfl)) rfl rfl (Nat.le_of_ble_eq_true rfl) ⟨Nat.le_of_ble_eq_true rfl, Nat.le_of_ble_eq_true rfl⟩ rfl (fun q_2 => ?_)
    exact w_ireturnA (v := q_2.1) hc hX dX7_root_31 rfl rfl rfl rfl
  · refine w_iload_n (q := 15) (i := 3) (j := 3) hc dX7_root_14 rfl rfl rfl ?_
    refine w_iconst (q := 16) hc dX7_root_15 ci_1 rfl ?_
    refine w_icmplt (q := 19) (tgt := 26) hc dX7_root_16 rfl rfl ?_ ?_
    · refine w_aload_n (q := 27) (i := 0) (j := 1) hc dX7_root_26 rfl rfl rfl ?_
      refine w_iconst (q := 28) hc dX7_root_27 ci_1 rfl ?_
      refine w_callV_Wi (q := 31) (st := []) (args := [.int 1]) (p := 0) hc (m_X7_refuse hK hR) dX7_root_28 ml_X7_56 cf_X7_refuse iv_X7_refuse (k_0 hK) (C := RX7) (T := TX7) (N := 7) rfl rfl (Nat.lt_of_succ_le (Nat.le_of_ble_eq_true rfl)) rfl rfl (Nat.le_of_ble_eq_true rfl) ⟨Nat.le_of_ble_eq_true rfl, Nat.le_of_ble_eq_true rfl⟩ rfl (fun q_3 => ?_)
      exact w_ireturnA (v := q_3.1) hc hX dX7_root_31 rfl rfl rfl rfl
    · refine w_iload_n (q := 20) (i := 3) (j := 3) hc dX7_root_19 rfl rfl rfl ?_
      refine w_sipush (q := 23) hc dX7_root_20 cs_1000 rfl ?_
      refine w_icmple (q := 26) (tgt := 32) hc dX7_root_23 rfl rfl ?_ ?_
      · refine w_aload_n (q := 33) (i := 0) (j := 1) hc dX7_root_32 rfl rfl rfl ?_
        refine w_callV_Ri (q := 36) (st := []) (args := []) (p := 0) hc (m_X7_hurdle hK hR) dX7_root_33 ml_X7_196 cf_X7_hurdle iv_X7_hurdle (k_0 hK) (C := RX7) (T := TX7) (N := 7) rfl rfl (Nat.lt_of_succ_le (Nat.le_of_ble_eq_true rfl)) rfl rfl (Nat.le_of_ble_eq_true rfl) ⟨Nat.le_of_ble_eq_true rfl, Nat.le_of_ble_eq_true rfl⟩ rfl (fun q_4 => ?_)
        refine w_istore (q := 38) (i := 6) (lv' := [(6, .int q_4), (4, .long q_1), (0, .ref 0), (1, .long a1), (3, .int a3)]) hc dX7_root_36 (hN 6 rfl) rfl rfl ?_
        refine w_iload (q := 40) (i := 6) (j := 0) hc dX7_root_38 rfl rfl ?_
        refine w_ifeq (q := 43) (tgt := 50) hc dX7_root_40 rfl rfl ?_ ?_
        · refine w_aload_n (q := 51) (i := 0) (j := 2) hc dX7_root_50 rfl rfl rfl ?_
          refine gf_X7_19 (q := 54) hc dX7_root_51 (k_0 hK) (r_0_1 hR) rfl ?_
          refine w_callA_r (q := 57) (st := []) (args := []) (p := 6) hc hX hRm hn m_X2_all dX7_root_54 ml_X7_301 cf_X2_all iv_X2_all (k_6 hK) (C := RX2) (T := TX2) (N := 13) rfl rfl (Nat.lt_of_succ_le (Nat.le_of_ble_eq_true rfl)) rfl rfl (Nat.le_of_ble_eq_true rfl) ⟨Nat.le_of_ble_eq_true rfl, Nat.le_of_ble_eq_true rfl⟩ rfl rfl rfl (fun q_5 G hc hX hRm hn => ?_)
          have hK := hX.2.2.2.1
          have hR := hX.2.2.2.2.1
          have hN : ∀ i, Nat.blt i 8 = true → i < gnL G := fun i h => hn ▸ Nat.blt_eq.mp h
          refine w_chk (fun hrm_6 => ?_)
          have hrm : q_5.2 ≠ 0 := of_decide_eq_true hrm_6
          refine w_lload (q := 59) (i := 4) (j := 1) hc dX7_root_57 rfl rfl ?_
          refine w_iload_n (q := 60) (i := 3) (j := 4) hc dX7_root_59 rfl rfl rfl ?_
          refine w_callV_Ri (q := 63) (st := []) (args := [.long q_1, .int a3]) (p := 69) hc (m_X4_firstRoot hK hR hrm) dX7_root_60 ml_X7_328 cf_X4_firstRoot iv_X4_firstRoot (k_69 hK hrm) (C := RX4) (T := TX4) (N := 16) rfl rfl (Nat.lt_of_succ_le (Nat.le_of_ble_eq_true rfl)) rfl rfl (Nat.le_of_ble_eq_true rfl) ⟨Nat.le_of_ble_eq_true rfl, Nat.le_of_ble_eq_true rfl⟩ rfl (fun q_7 => ?_)
          refine w_istore (q := 65) (i := 7) (lv' := [(7, .int q_7), (6, .int q_4), (4, .long q_1), (0, .ref 0), (1, .long a1), (3, .int a3)]) hc dX7_root_63 (hN 7 rfl) rfl rfl ?_
          refine w_iload (q := 67) (i := 7) (j := 0) hc dX7_root_65 rfl rfl ?_
          refine w_ifge (q := 70) (tgt := 78) hc dX7_root_67 rfl rfl ?_ ?_
          · refine w_aload_n (q := 79) (i := 0) (j := 3) hc dX7_root_78 rfl rfl rfl ?_
            refine w_iload (q := 81) (i := 7) (j := 0) hc dX7_root_79 rfl rfl ?_
            refine w_callV_Wi (q := 84) (st := []) (args := [.int q_7]) (p := 0) hc (m_X7_tell hK hR) dX7_root_81 ml_X7_86 cf_X7_tell iv_X7_tell (k_0 hK) (C := RX7) (T := TX7) (N := 7) rfl rfl (Nat.lt_of_succ_le (Nat.le_of_ble_eq_true rfl)) rfl rfl (Nat.le_of_ble_eq_true rfl) ⟨Nat.le_of_ble_eq_true rfl, Nat.le_of_ble_eq_true rfl⟩ rfl (fun q_8 => ?_)
            exact w_ireturnA (v := q_8.1) hc hX dX7_root_84 rfl rfl rfl rfl
          · refine w_aload_n (q := 71) (i := 0) (j := 3) hc dX7_root_70 rfl rfl rfl ?_
            refine w_iconst (q := 72) hc dX7_root_71 ci_5 rfl ?_
            refine w_callV_Wi (q := 75) (st := []) (args := [.int 5]) (p := 0) hc (m_X7_refuse hK hR) dX7_root_72 ml_X7_56 cf_X7_refuse iv_X7_refuse (k_0 hK) (C := RX7) (T := TX7) (N := 7) rfl rfl (Nat.lt_of_succ_le (Nat.le_of_ble_eq_true rfl)) rfl rfl (Nat.le_of_ble_eq_true rfl) ⟨Nat.le_of_ble_eq_true rfl, Nat.le_of_ble_eq_true rfl⟩ rfl (fun q_9 => ?_)
            refine w_goto (tgt := 84) hc dX7_root_75 rfl ?_
            exact w_ireturnA (v := q_9.1) hc hX dX7_root_84 rfl rfl rfl rfl
        · refine w_aload_n (q := 44) (i := 0) (j := 2) hc dX7_root_43 rfl rfl rfl ?_
          refine w_iload (q := 46) (i := 6) (j := 0) hc dX7_root_44 rfl rfl ?_
          refine w_callV_Wi (q := 49) (st := []) (args := [.int q_4]) (p := 0) hc (m_X7_refuse hK hR) dX7_root_46 ml_X7_56 cf_X7_refuse iv_X7_refuse (k_0 hK) (C := RX7) (T := TX7) (N := 7) rfl rfl (Nat.lt_of_succ_le (Nat.le_of_ble_eq_true rfl)) rfl rfl (Nat.le_of_ble_eq_true rfl) ⟨Nat.le_of_ble_eq_true rfl, Nat.le_of_ble_eq_true rfl⟩ rfl (fun q_10 => ?_)
          exact w_ireturnA (v := q_10.1) hc hX dX7_root_49 rfl rfl rfl rfl
      · refine w_aload_n (q := 27) (i := 0) (j := 1) hc dX7_root_26 rfl rfl rfl ?_
        refine w_iconst (q := 28) hc dX7_root_27 ci_1 rfl ?_
        refine w_callV_Wi (q := 31) (st := []) (args := [.int 1]) (p := 0) hc (m_X7_refuse hK hR) dX7_root_28 ml_X7_56 cf_X7_refuse iv_X7_refuse (k_0 hK) (C := RX7) (T := TX7) (N := 7) rfl rfl (Nat.lt_of_succ_le (Nat.le_of_ble_eq_true rfl)) rfl rfl (Nat.le_of_ble_eq_true rfl) ⟨Nat.le_of_ble_eq_true rfl, Nat.le_of_ble_eq_true rfl⟩ rfl (fun q_11 => ?_)
        exact w_ireturnA (v := q_11.1) hc hX dX7_root_31 rfl rfl rfl rfl
set_option maxRecDepth 100000 in
set_option maxHeartbeats 4000000 in
theorem m_X7_slightest {l : Launch} {rm : Nat} {I : MI} {L : ML} : MFa l yX7_slightest cX7_slightest 3 (some .int) 5 128 [.ref 0] rm I L anIA meA roA (f_X7_slightest rm I L) := by
  refine mfa_of (plainFor_of_name (by decide)) (Nat.le_of_ble_eq_true rfl) ?_
  intro G ad0 hc hX hRm hn
  have hK := hX.2.2.2.1
  have hR := hX.2.2.2.2.1
  have hN : ∀ i, Nat.blt i 3 = true → i < gnL G := fun i h => hn ▸ Nat.blt_eq.mp h
  unfold f_X7_slightest
  show WW G 0 [(0, .ref 0)] [] I L _
  refine w_aload_n (q := 1) (i := 0) (j := 0) hc dX7_slightest_0 rfl rfl rfl ?_
  refine w_callV_Ri (q := 4) (st := []) (args := []) (p := 0) hc (m_X7_hurdle hK hR) dX7_slightest_1 ml_X7_196 cf_X7_hurdle iv_X7_hurdle (k_0 hK) (C := RX7) (T := TX7) (N := 7) rfl rfl (Nat.lt_of_succ_le (Nat.le_of_ble_eq_true rfl)) rfl rfl (Nat.le_of_ble_eq_true rfl) ⟨Nat.le_of_ble_eq_true rfl, Nat.le_of_ble_eq_true rfl⟩ rfl (fun q_1 => ?_)
  refine w_istore_n (q := 5) (i := 1) (lv' := [(1, .int q_1), (0, .ref 0)]) hc dX7_slightest_4 rfl (hN 1 rfl) rfl rfl ?_
  refine w_iload_n (q := 6) (i := 1) (j := 0) hc dX7_slightest_5 rfl rfl rfl ?_
  refine w_ifeq (q := 9) (tgt := 15) hc dX7_slightest_6 rfl rfl ?_ ?_
  · refine w_aload_n (q := 16) (i := 0) (j := 1) hc dX7_slightest_15 rfl rfl rfl ?_
    refine gf_X7_19 (q := 19) hc dX7_slightest_16 (k_0 hK) (r_0_1 hR) rfl ?_
    refine w_callA_r (q := 22) (st := []) (args := []) (p := 6) hc hX hRm hn m_X2_shaped dX7_slightest_19 ml_X7_316 cf_X2_shaped iv_X2_shaped (k_6 hK) (C := RX2) (T := TX2) (N := 13) rfl rfl (Nat.lt_of_succ_le (Nat.le_of_ble_eq_true rfl)) rfl rfl (Nat.le_of_ble_eq_true rfl) ⟨Nat.le_of_ble_eq_true rfl, Nat.le_of_ble_eq_true rfl⟩ rfl rfl rfl (fun q_2 G hc hX hRm hn => ?_)
    have hK := hX.2.2.2.1
    have hR := hX.2.2.2.2.1
    have hN : ∀ i, Nat.blt i 3 = true → i < gnL G := fun i h => hn ▸ Nat.blt_eq.mp h
    refine w_chk (fun hrm_3 => ?_)
    have hrm : q_2.2 ≠ 0 := of_decide_eq_true hrm_3
    refine w_callV_Ri (q := 25) (st := []) (args := []) (p := 69) hc (m_X4_fewestMoved hK hR hrm) dX7_slightest_22 ml_X7_331 cf_X4_fewestMoved iv_X4_fewestMoved (k_69 hK hrm) (C := RX4) (T := TX4) (N := 16) rfl rfl (Nat.lt_of_succ_le (Nat.le_of_ble_eq_true rfl)) rfl rfl (Nat.le_of_ble_eq_true rfl) ⟨Nat.le_of_ble_eq_true rfl, Nat.le_of_ble_eq_true rfl⟩ rfl (fun q_4 => ?_)
    refine w_istore_n (q := 26) (i := 2) (lv' := [(2, .int q_4), (1, .int q_1), (0, .ref 0)]) hc dX7_slightest_25 rfl (hN 2 rfl) rfl rfl ?_
    refine w_iload_n (q := 27) (i := 2) (j := 0) hc dX7_slightest_26 rfl rfl rfl ?_
    refine w_ifne (q := 30) (tgt := 38) hc dX7_slightest_27 rfl rfl ?_ ?_
    · refine w_aload_n (q := 31) (i := 0) (j := 2) hc dX7_slightest_30 rfl rfl rfl ?_
      refine w_iconst (q := 32) hc dX7_slightest_31 ci_5 rfl ?_
      refine w_callV_Wi (q := 35) (st := []) (args := [.int 5]) (p := 0) hc (m_X7_refuse hK hR) dX7_slightest_32 ml_X7_56 cf_X7_refuse iv_X7_refuse (k_0 hK) (C := RX7) (T := TX7) (N := 7) rfl rfl (Nat.lt_of_succ_le (Nat.le_of_ble_eq_true rfl)) rfl rfl (Nat.le_of_ble_eq_true rfl) ⟨Nat.le_of_ble_eq_true rfl, Nat.le_of_ble_eq_true rfl⟩ rfl (fun q_6 => ?_)
      refine w_goto (tgt := 43) hc dX7_slightest_35 rfl ?_
      exact w_ireturnA (v := q_6.1) hc hX dX7_slightest_43 rfl rfl rfl rfl
    · refine w_aload_n (q := 39) (i := 0) (j := 2) hc dX7_slightest_38 rfl rfl rfl ?_
      refine w_iload_n (q := 40) (i := 2) (j := 0) hc dX7_slightest_39 rfl rfl rfl ?_
      refine w_callV_Wi (q := 43) (st := []) (args := [.int q_4]) (p := 0) hc (m_X7_tell hK hR) dX7_slightest_40 ml_X7_86 cf_X7_tell iv_X7_tell (k_0 hK) (C := RX7) (T := TX7) (N := 7) rfl rfl (Nat.lt_of_succ_le (Nat.le_of_ble_eq_true rfl)) rfl rfl (Nat.le_of_ble_eq_true rfl) ⟨Nat.le_of_ble_eq_true rfl, Nat.le_of_ble_eq_true rfl⟩ rfl (fun q_5 => ?_)
      exact w_ireturnA (v := q_5.1) hc hX dX7_slightest_43 rfl rfl rfl rfl
  · refine w_aload_n (q := 10) (i := 0) (j := 1) hc dX7_slightest_9 rfl rfl rfl ?_
    refine w_iload_n (q := 11) (i := 1) (j := 0) hc dX7_slightest_10 rfl rfl rfl ?_
    refine w_callV_Wi (q := 14) (st := []) (args := [.int q_1]) (p := 0) hc (m_X7_refuse hK hR) dX7_slightest_11 ml_X7_56 cf_X7_refuse iv_X7_refuse (k_0 hK) (C := RX7) (T := TX7) (N := 7) rfl rfl (Nat.lt_of_succ_le (Nat.le_of_ble_eq_true rfl)) rfl rfl (Nat.le_of_ble_eq_true rfl) ⟨Nat.le_of_ble_eq_true rfl, Nat.le_of_ble_eq_true rfl⟩ rfl (fun q_7 => ?_)
    exact w_ireturnA (v := q_7.1) hc hX dX7_slightest_14 rfl rfl rfl rfl
