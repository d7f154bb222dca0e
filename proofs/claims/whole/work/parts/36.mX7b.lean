set_option maxRecDepth 100000 in
set_option maxHeartbeats 4000000 in
theorem m_X7_ofOrder {l : Launch} {rm : Nat} {a1 : Int32} {I : MI} {L : ML} : MFa l yX7_ofOrder cX7_ofOrder 4 (some .int) 5 128 [.ref 0, .int a1] rm I L anIA meA roA (f_X7_ofOrder rm a1 I L) := by
  refine mfa_of (plainFor_of_name (by decide)) (Nat.le_of_ble_eq_true rfl) ?_
  intro G ad0 hc hX hRm hn
  have hK := hX.2.2.2.1
  have hR := hX.2.2.2.2.1
  have hN : ∀ i, Nat.blt i 4 = true → i < gnL G := fun i h => hn ▸ Nat.blt_eq.mp h
  unfold f_X7_ofOrder
  show WW G 0 [(0, .ref 0), (1, .int a1)] [] I L _
  refine w_iload_n (q := 1) (i := 1) (j := 1) hc dX7_ofOrder_0 rfl rfl rfl ?_
  refine w_iconst (q := 2) hc dX7_ofOrder_1 ci_1 rfl ?_
  refine w_icmpge (q := 5) (tgt := 11) hc dX7_ofOrder_2 rfl rfl ?_ ?_
  · refine w_aload_n (q := 12) (i := 0) (j := 0) hc dX7_ofOrder_11 rfl rfl rfl ?_
    refine w_callV_Ri (q := 15) (st := []) (args := []) (p := 0) hc (m_X7_hurdle hK hR) dX7_ofOrder_12 ml_X7_196 cf_X7_hurdle iv_X7_hurdle (k_0 hK) (C := RX7) (T := TX7) (N := 7) rfl rfl (Nat.lt_of_succ_le (Nat.le_of_ble_eq_true rfl)) rfl rfl (Nat.le_of_ble_eq_true rfl) ⟨Nat.le_of_ble_eq_true rfl, Nat.le_of_ble_eq_true rfl⟩ rfl (fun q_1 => ?_)
    refine w_istore_n (q := 16) (i := 2) (lv' := [(2, .int q_1), (0, .ref 0), (1, .int a1)]) hc dX7_ofOrder_15 rfl (hN 2 rfl) rfl rfl ?_
    refine w_iload_n (q := 17) (i := 2) (j := 0) hc dX7_ofOrder_16 rfl rfl rfl ?_
    refine w_ifeq (q := 20) (tgt := 26) hc dX7_ofOrder_17 rfl rfl ?_ ?_
    · refine w_aload_n (q := 27) (i := 0) (j := 1) hc dX7_ofOrder_26 rfl rfl rfl ?_
      refine gf_X7_19 (q := 30) hc dX7_ofOrder_27 (k_0 hK) (r_0_1 hR) rfl ?_
      refine w_callA_r (q := 33) (st := []) (args := []) (p := 6) hc hX hRm hn m_X2_shaped dX7_ofOrder_30 ml_X7_316 cf_X2_shaped iv_X2_shaped (k_6 hK) (C := RX2) (T := TX2) (N := 13) rfl rfl (Nat.lt_of_succ_le (Nat.le_of_ble_eq_true rfl)) rfl rfl (Nat.le_of_ble_eq_true rfl) ⟨Nat.le_of_ble_eq_true rfl, Nat.le_of_ble_eq_true rfl⟩ rfl rfl rfl (fun q_2 G hc hX hRm hn => ?_)
      have hK := hX.2.2.2.1
      have hR := hX.2.2.2.2.1
      have hN : ∀ i, Nat.blt i 4 = true → i < gnL G := fun i h => hn ▸ Nat.blt_eq.mp h
      refine w_chk (fun hrm_3 => ?_)
      have hrm : q_2.2 ≠ 0 := of_decide_eq_true hrm_3
      refine w_iload_n (q := 34) (i := 1) (j := 2) hc dX7_ofOrder_33 rfl rfl rfl ?_
      refine w_callV_Ri (q := 37) (st := []) (args := [.int a1]) (p := 69) hc (m_X4_countPeriod hK hR hrm) dX7_ofOrder_34 ml_X7_334 cf_X4_countPeriod iv_X4_countPeriod (k_69 hK hrm) (C := RX4) (T := TX4) (N := 16) rfl rfl (Nat.lt_of_succ_le (Nat.le_of_ble_eq_true rfl)) rfl rfl (Nat.le_of_ble_eq_true rfl) ⟨Nat.le_of_ble_eq_true rfl, Nat.le_of_ble_eq_true rfl⟩ rfl (fun q_4 => ?_)
      refine w_istore_n (q := 38) (i := 3) (lv' := [(3, .int q_4), (2, .int q_1), (0, .ref 0), (1, .int a1)]) hc dX7_ofOrder_37 rfl (hN 3 rfl) rfl rfl ?_
      refine w_iload_n (q := 39) (i := 3) (j := 0) hc dX7_ofOrder_38 rfl rfl rfl ?_
      refine w_ifne (q := 42) (tgt := 50) hc dX7_ofOrder_39 rfl rfl ?_ ?_
      · refine w_aload_n (q := 43) (i := 0) (j := 2) hc dX7_ofOrder_42 rfl rfl rfl ?_
        refine w_iconst (q := 44) hc dX7_ofOrder_43 ci_5 rfl ?_
        refine w_callV_Wi (q := 47) (st := []) (args := [.int 5]) (p := 0) hc (m_X7_refuse hK hR) dX7_ofOrder_44 ml_X7_56 cf_X7_refuse iv_X7_refuse (k_0 hK) (C := RX7) (T := TX7) (N := 7) rfl rfl (Nat.lt_of_succ_le (Nat.le_of_ble_eq_true rfl)) rfl rfl (Nat.le_of_ble_eq_true rfl) ⟨Nat.le_of_ble_eq_true rfl, Nat.le_of_ble_eq_true rfl⟩ rfl (fun q_6 => ?_)
        refine w_goto (tgt := 55) hc dX7_ofOrder_47 rfl ?_
        exact w_ireturnA (v := q_6.1) hc hX dX7_ofOrder_55 rfl rfl rfl rfl
      · refine w_aload_n (q := 51) (i := 0) (j := 2) hc dX7_ofOrder_50 rfl rfl rfl ?_
        refine w_iload_n (q := 52) (i := 3) (j := 0) hc dX7_ofOrder_51 rfl rfl rfl ?_
        refine w_callV_Wi (q := 55) (st := []) (args := [.int q_4]) (p := 0) hc (m_X7_tell hK hR) dX7_ofOrder_52 ml_X7_86 cf_X7_tell iv_X7_tell (k_0 hK) (C := RX7) (T := TX7) (N := 7) rfl rfl (Nat.lt_of_succ_le (Nat.le_of_ble_eq_true rfl)) rfl rfl (Nat.le_of_ble_eq_true rfl) ⟨Nat.le_of_ble_eq_true rfl, Nat.le_of_ble_eq_true rfl⟩ rfl (fun q_5 => ?_)
        exact w_ireturnA (v := q_5.1) hc hX dX7_ofOrder_55 rfl rfl rfl rfl
    · refine w_aload_n (q := 21) (i := 0) (j := 1) hc dX7_ofOrder_20 rfl rfl rfl ?_
      refine w_iload_n (q := 22) (i := 2) (j := 0) hc dX7_ofOrder_21 rfl rfl rfl ?_
      refine w_callV_Wi (q := 25) (st := []) (args := [.int q_1]) (p := 0) hc (m_X7_refuse hK hR) dX7_ofOrder_22 ml_X7_56 cf_X7_refuse iv_X7_refuse (k_0 hK) (C := RX7) (T := TX7) (N := 7) rfl rfl (Nat.lt_of_succ_le (Nat.le_of_ble_eq_true rfl)) rfl rfl (Nat.le_of_ble_eq_true rfl) ⟨Nat.le_of_ble_eq_true rfl, Nat.le_of_ble_eq_true rfl⟩ rfl (fun q_7 => ?_)
      exact w_ireturnA (v := q_7.1) hc hX dX7_ofOrder_25 rfl rfl rfl rfl
  · refine w_aload_n (q := 6) (i := 0) (j := 0) hc dX7_ofOrder_5 rfl rfl rfl ?_
    refine w_iconst (q := 7) hc dX7_ofOrder_6 ci_1 rfl ?_
    refine w_callV_Wi (q := 10) (st := []) (args := [.int 1]) (p := 0) hc (m_X7_refuse hK hR) dX7_ofOrder_7 ml_X7_56 cf_X7_refuse iv_X7_refuse (k_0 hK) (C := RX7) (T := TX7) (N := 7) rfl rfl (Nat.lt_of_succ_le (Nat.le_of_ble_eq_true rfl)) rfl rfl (Nat.le_of_ble_eq_true rfl) ⟨Nat.le_of_ble_eq_true rfl, Nat.le_of_ble_eq_true rfl⟩ rfl (fun q_8 => ?_)
    exact w_ireturnA (v := q_8.1) hc hX dX7_ofOrder_10 rfl rfl rfl rfl
set_option maxRecDepth 100000 in
set_option maxHeartbeats 4000000 in
theorem m_X7_keepPast {l : Launch} {K : KT} {R : MR} {rm : Nat} {I : MI} {L : ML} (hK0 : K = lK rm) (hR0 : R = lR rm) : MFg l yX7_keepPast cX7_keepPast 1 none 3 105 [.ref 0] K R I L anV meV (f_X7_keepPast I L) := by
  refine mf_of (plainFor_of_name (by decide)) (Nat.le_of_ble_eq_true rfl) ?_
  intro G hc _ hK1 hR1 hn hq
  have hK := hK1.trans hK0
  have hR := hR1.trans hR0
  have hN : ∀ i, Nat.blt i 1 = true → i < gnL G := fun i h => hn ▸ Nat.blt_eq.mp h
  unfold f_X7_keepPast
  show WW G 0 [(0, .ref 0)] [] I L _
  refine w_aload_n (q := 1) (i := 0) (j := 0) hc dX7_keepPast_0 rfl rfl rfl ?_
  refine gf_X7_26 (q := 4) hc dX7_keepPast_1 (k_0 hK) (r_0_2 hR) rfl ?_
  refine w_aload_n (q := 5) (i := 0) (j := 0) hc dX7_keepPast_4 rfl rfl rfl ?_
  refine gf_X7_38 (q := 8) hc dX7_keepPast_5 (k_0 hK) rfl ?_
  refine w_aload_n (q := 9) (i := 0) (j := 0) hc dX7_keepPast_8 rfl rfl rfl ?_
  refine gf_X7_19 (q := 12) hc dX7_keepPast_9 (k_0 hK) (r_0_1 hR) rfl ?_
  refine gf_X7_380 (q := 15) hc dX7_keepPast_12 (k_6 hK) (r_6_2 hR) rfl ?_
  refine w_aload_n (q := 16) (i := 0) (j := 0) hc dX7_keepPast_15 rfl rfl rfl ?_
  refine gf_X7_19 (q := 19) hc dX7_keepPast_16 (k_0 hK) (r_0_1 hR) rfl ?_
  refine gf_X7_96 (q := 22) hc dX7_keepPast_19 (k_6 hK) rfl ?_
  refine w_callV_Wv (q := 25) (st := []) (args := [.long (L 0 5), .ref 7, .int (I 6 1)]) (p := 37) hc (m_X3_keep hK hR (kB hK (k_7 hK))) dX7_keepPast_22 ml_X7_381 cf_X3_keep iv_X3_keep (k_37 hK) (C := RX3) (T := TX3) (N := 7) rfl rfl (Nat.lt_of_succ_le (Nat.le_of_ble_eq_true rfl)) rfl rfl (Nat.le_of_ble_eq_true rfl) ⟨Nat.le_of_ble_eq_true rfl, Nat.le_of_ble_eq_true rfl⟩ rfl (fun q_1 => ?_)
  exact w_return hc hq dX7_keepPast_25 rfl rfl
set_option maxRecDepth 100000 in
set_option maxHeartbeats 4000000 in
theorem m_X7_countAway {l : Launch} {K : KT} {R : MR} {rm : Nat} {I : MI} {L : ML} (hK0 : K = lK rm) (hR0 : R = lR rm) : MFg l yX7_countAway cX7_countAway 1 (some .int) 2 46 [.ref 0] K R I L anI (meR I L) (f_X7_countAway I L) := by
  refine mf_of (plainFor_of_name (by decide)) (Nat.le_of_ble_eq_true rfl) ?_
  intro G hc _ hK1 hR1 hn hq
  have hK := hK1.trans hK0
  have hR := hR1.trans hR0
  have hN : ∀ i, Nat.blt i 1 = true → i < gnL G := fun i h => hn ▸ Nat.blt_eq.mp h
  unfold f_X7_countAway
  show WW G 0 [(0, .ref 0)] [] I L _
  refine w_aload_n (q := 1) (i := 0) (j := 0) hc dX7_countAway_0 rfl rfl rfl ?_
  refine gf_X7_38 (q := 4) hc dX7_countAway_1 (k_0 hK) rfl ?_
  refine w_aload_n (q := 5) (i := 0) (j := 0) hc dX7_countAway_4 rfl rfl rfl ?_
  refine gf_X7_19 (q := 8) hc dX7_countAway_5 (k_0 hK) (r_0_1 hR) rfl ?_
  refine gf_X7_95 (q := 11) hc dX7_countAway_8 (k_6 hK) rfl ?_
  refine w_callS_Ri (q := 14) (st := []) (args := [.long (L 0 5), .int (I 6 0)]) hc (m_X6_moved hK hR) dX7_countAway_11 ml_X7_153 cf_X6_moved st_X6_moved rfl rfl (Nat.le_of_ble_eq_true rfl) ⟨Nat.le_of_ble_eq_true rfl, Nat.le_of_ble_eq_true rfl⟩ rfl (fun q_1 => ?_)
  refine w_callS_Ri (q := 17) (st := []) (args := [.int q_1]) hc (m_J6_bitCount_0f7a4 hK hR) dX7_countAway_14 ml_X7_375 cf_J6_bitCount_0f7a4 st_J6_bitCount_0f7a4 rfl rfl (Nat.le_of_ble_eq_true rfl) ⟨Nat.le_of_ble_eq_true rfl, Nat.le_of_ble_eq_true rfl⟩ rfl (fun q_2 => ?_)
  exact w_ireturn (v := q_2) hc hq dX7_countAway_17 rfl rfl rfl
set_option maxRecDepth 100000 in
set_option maxHeartbeats 4000000 in
theorem m_X7_turn {l : Launch} {K : KT} {R : MR} {rm : Nat} {a1 : Int32} {I : MI} {L : ML} (hK0 : K = lK rm) (hR0 : R = lR rm) : MFg l yX7_turn cX7_turn 2 (some .int) 4 125 [.ref 0, .int a1] K R I L anIW meW (f_X7_turn a1 I L) := by
  refine mf_of (plainFor_of_name (by decide)) (Nat.le_of_ble_eq_true rfl) ?_
  intro G hc _ hK1 hR1 hn hq
  have hK := hK1.trans hK0
  have hR := hR1.trans hR0
  have hN : ∀ i, Nat.blt i 2 = true → i < gnL G := fun i h => hn ▸ Nat.blt_eq.mp h
  unfold f_X7_turn
  show WW G 0 [(0, .ref 0), (1, .int a1)] [] I L _
  refine w_aload_n (q := 1) (i := 0) (j := 0) hc dX7_turn_0 rfl rfl rfl ?_
  refine gf_X7_19 (q := 4) hc dX7_turn_1 (k_0 hK) (r_0_1 hR) rfl ?_
  refine w_iload_n (q := 5) (i := 1) (j := 1) hc dX7_turn_4 rfl rfl rfl ?_
  refine w_callV_Rz (q := 8) (st := []) (args := [.int a1]) (p := 6) hc (m_X2_hasStep hK hR) dX7_turn_5 ml_X7_104 cf_X2_hasStep iv_X2_hasStep (k_6 hK) (C := RX2) (T := TX2) (N := 13) rfl rfl (Nat.lt_of_succ_le (Nat.le_of_ble_eq_true rfl)) rfl rfl (Nat.le_of_ble_eq_true rfl) ⟨Nat.le_of_ble_eq_true rfl, Nat.le_of_ble_eq_true rfl⟩ rfl (fun q_1 => ?_)
  refine w_ifne (q := 11) (tgt := 17) hc dX7_turn_8 rfl rfl ?_ ?_
  · refine w_aload_n (q := 12) (i := 0) (j := 0) hc dX7_turn_11 rfl rfl rfl ?_
    refine w_iconst (q := 13) hc dX7_turn_12 ci_2 rfl ?_
    refine w_callV_Wi (q := 16) (st := []) (args := [.int 2]) (p := 0) hc (m_X7_refuse hK hR) dX7_turn_13 ml_X7_56 cf_X7_refuse iv_X7_refuse (k_0 hK) (C := RX7) (T := TX7) (N := 7) rfl rfl (Nat.lt_of_succ_le (Nat.le_of_ble_eq_true rfl)) rfl rfl (Nat.le_of_ble_eq_true rfl) ⟨Nat.le_of_ble_eq_true rfl, Nat.le_of_ble_eq_true rfl⟩ rfl (fun q_8 => ?_)
    exact w_ireturn (v := q_8.1) hc hq dX7_turn_16 rfl rfl rfl
  · refine w_aload_n (q := 18) (i := 0) (j := 0) hc dX7_turn_17 rfl rfl rfl ?_
    refine w_callV_Wv (q := 21) (st := []) (args := []) (p := 0) hc (m_X7_keepPast hK hR) dX7_turn_18 ml_X7_337 cf_X7_keepPast iv_X7_keepPast (k_0 hK) (C := RX7) (T := TX7) (N := 7) rfl rfl (Nat.lt_of_succ_le (Nat.le_of_ble_eq_true rfl)) rfl rfl (Nat.le_of_ble_eq_true rfl) ⟨Nat.le_of_ble_eq_true rfl, Nat.le_of_ble_eq_true rfl⟩ rfl (fun q_2 => ?_)
    refine w_aload_n (q := 22) (i := 0) (j := 0) hc dX7_turn_21 rfl rfl rfl ?_
    refine w_aload_n (q := 23) (i := 0) (j := 0) hc dX7_turn_22 rfl rfl rfl ?_
    refine gf_X7_38 (q := 26) hc dX7_turn_23 (k_0 hK) rfl ?_
    refine w_aload_n (q := 27) (i := 0) (j := 0) hc dX7_turn_26 rfl rfl rfl ?_
    refine gf_X7_19 (q := 30) hc dX7_turn_27 (k_0 hK) (r_0_1 hR) rfl ?_
    refine w_iload_n (q := 31) (i := 1) (j := 1) hc dX7_turn_30 rfl rfl rfl ?_
    refine w_callV_Rl (q := 34) (st := [.long (q_2.2 0 5), .ref 0]) (args := [.int a1]) (p := 6) hc (m_X2_turnOf hK hR) dX7_turn_31 ml_X7_107 cf_X2_turnOf iv_X2_turnOf (k_6 hK) (C := RX2) (T := TX2) (N := 13) rfl rfl (Nat.lt_of_succ_le (Nat.le_of_ble_eq_true rfl)) rfl rfl (Nat.le_of_ble_eq_true rfl) ⟨Nat.le_of_ble_eq_true rfl, Nat.le_of_ble_eq_true rfl⟩ rfl (fun q_3 => ?_)
    refine w_aload_n (q := 35) (i := 0) (j := 0) hc dX7_turn_34 rfl rfl rfl ?_
    refine gf_X7_19 (q := 38) hc dX7_turn_35 (k_0 hK) (r_0_1 hR) rfl ?_
    refine gf_X7_95 (q := 41) hc dX7_turn_38 (k_6 hK) rfl ?_
    refine w_callS_Rl (q := 44) (st := [.ref 0]) (args := [.long (q_2.2 0 5), .long q_3, .int (q_2.1 6 0)]) hc (m_X6_compose hK hR) dX7_turn_41 ml_X7_124 cf_X6_compose st_X6_compose rfl rfl (Nat.le_of_ble_eq_true rfl) ⟨Nat.le_of_ble_eq_true rfl, Nat.le_of_ble_eq_true rfl⟩ rfl (fun q_4 => ?_)
    refine pf_X7_38 (q := 47) hc dX7_turn_44 (k_0 hK) rfl (fun L_5 => ?_)
    refine w_aload_n (q := 48) (i := 0) (j := 0) hc dX7_turn_47 rfl rfl rfl ?_
    refine w_aload_n (q := 49) (i := 0) (j := 0) hc dX7_turn_48 rfl rfl rfl ?_
    refine gf_X7_19 (q := 52) hc dX7_turn_49 (k_0 hK) (r_0_1 hR) rfl ?_
    refine gf_X7_95 (q := 55) hc dX7_turn_52 (k_6 hK) rfl ?_
    refine w_aload_n (q := 56) (i := 0) (j := 0) hc dX7_turn_55 rfl rfl rfl ?_
    refine w_callV_Ri (q := 59) (st := [.int (q_2.1 6 0), .ref 0]) (args := []) (p := 0) hc (m_X7_countAway hK hR) dX7_turn_56 ml_X7_340 cf_X7_countAway iv_X7_countAway (k_0 hK) (C := RX7) (T := TX7) (N := 7) rfl rfl (Nat.lt_of_succ_le (Nat.le_of_ble_eq_true rfl)) rfl rfl (Nat.le_of_ble_eq_true rfl) ⟨Nat.le_of_ble_eq_true rfl, Nat.le_of_ble_eq_true rfl⟩ rfl (fun q_6 => ?_)
    refine w_isub (q := 60) hc dX7_turn_59  rfl ?_
    refine w_callV_Wi (q := 63) (st := []) (args := [.int ((q_2.1 6 0) - q_6)]) (p := 0) hc (m_X7_tell hK hR) dX7_turn_60 ml_X7_86 cf_X7_tell iv_X7_tell (k_0 hK) (C := RX7) (T := TX7) (N := 7) rfl rfl (Nat.lt_of_succ_le (Nat.le_of_ble_eq_true rfl)) rfl rfl (Nat.le_of_ble_eq_true rfl) ⟨Nat.le_of_ble_eq_true rfl, Nat.le_of_ble_eq_true rfl⟩ rfl (fun q_7 => ?_)
    exact w_ireturn (v := q_7.1) hc hq dX7_turn_63 rfl rfl rfl
set_option maxRecDepth 100000 in
set_option maxHeartbeats 4000000 in
theorem m_X7_place {l : Launch} {K : KT} {R : MR} {rm : Nat} {a1 : Int64} {I : MI} {L : ML} (hK0 : K = lK rm) (hR0 : R = lR rm) : MFg l yX7_place cX7_place 5 (some .int) 4 125 [.ref 0, .long a1] K R I L anIW meW (f_X7_place a1 I L) := by
  refine mf_of (plainFor_of_name (by decide)) (Nat.le_of_ble_eq_true rfl) ?_
  intro G hc _ hK1 hR1 hn hq
  have hK := hK1.trans hK0
  have hR := hR1.trans hR0
  have hN : ∀ i, Nat.blt i 5 = true → i < gnL G := fun i h => hn ▸ Nat.blt_eq.mp h
  unfold f_X7_place
  show WW G 0 [(0, .ref 0), (1, .long a1)] [] I L _
  refine w_aload_n (q := 1) (i := 0) (j := 0) hc dX7_place_0 rfl rfl rfl ?_
  refine w_lload_n (q := 2) (i := 1) (j := 1) hc dX7_place_1 rfl rfl rfl ?_
  refine w_callV_Rl (q := 5) (st := []) (args := [.long a1]) (p := 0) hc (m_X7_read hK hR) dX7_place_2 ml_X7_114 cf_X7_read iv_X7_read (k_0 hK) (C := RX7) (T := TX7) (N := 7) rfl rfl (Nat.lt_of_succ_le (Nat.le_of_ble_eq_true rfl)) rfl rfl (Nat.le_of_ble_eq_true rfl) ⟨Nat.le_of_ble_eq_true rfl, Nat.le_of_ble_eq_true rfl⟩ rfl (fun q_1 => ?_)
  refine w_lstore_n (q := 6) (i := 3) (lv' := [(3, .long q_1), (0, .ref 0), (1, .long a1)]) hc dX7_place_5 rfl (hN 4 rfl) rfl rfl ?_
  refine w_lload_n (q := 7) (i := 3) (j := 0) hc dX7_place_6 rfl rfl rfl ?_
  refine w_lconst (q := 8) hc dX7_place_7 cl_0 rfl ?_
  refine w_lcmp (q := 9) hc dX7_place_8  rfl ?_
  refine w_ifge (q := 12) (tgt := 18) hc dX7_place_9 rfl rfl ?_ ?_
  · refine w_lload_n (q := 19) (i := 3) (j := 0) hc dX7_place_18 rfl rfl rfl ?_
    refine w_aload_n (q := 20) (i := 0) (j := 1) hc dX7_place_19 rfl rfl rfl ?_
    refine gf_X7_38 (q := 23) hc dX7_place_20 (k_0 hK) rfl ?_
    refine w_lcmp (q := 24) hc dX7_place_23  rfl ?_
    refine w_ifne (q := 27) (tgt := 33) hc dX7_place_24 rfl rfl ?_ ?_
    · refine w_aload_n (q := 28) (i := 0) (j := 1) hc dX7_place_27 rfl rfl rfl ?_
      refine w_iconst (q := 29) hc dX7_place_28 ci_4 rfl ?_
      refine w_callV_Wi (q := 32) (st := []) (args := [.int 4]) (p := 0) hc (m_X7_refuse hK hR) dX7_place_29 ml_X7_56 cf_X7_refuse iv_X7_refuse (k_0 hK) (C := RX7) (T := TX7) (N := 7) rfl rfl (Nat.lt_of_succ_le (Nat.le_of_ble_eq_true rfl)) rfl rfl (Nat.le_of_ble_eq_true rfl) ⟨Nat.le_of_ble_eq_true rfl, Nat.le_of_ble_eq_true rfl⟩ rfl (fun q_6 => ?_)
      exact w_ireturn (v := q_6.1) hc hq dX7_place_32 rfl rfl rfl
    · refine w_aload_n (q := 34) (i := 0) (j := 1) hc dX7_place_33 rfl rfl rfl ?_
      refine w_callV_Wv (q := 37) (st := []) (args := []) (p := 0) hc (m_X7_keepPast hK hR) dX7_place_34 ml_X7_337 cf_X7_keepPast iv_X7_keepPast (k_0 hK) (C := RX7) (T := TX7) (N := 7) rfl rfl (Nat.lt_of_succ_le (Nat.le_of_ble_eq_true rfl)) rfl rfl (Nat.le_of_ble_eq_true rfl) ⟨Nat.le_of_ble_eq_true rfl, Nat.le_of_ble_eq_true rfl⟩ rfl (fun q_2 => ?_)
      refine w_aload_n (q := 38) (i := 0) (j := 1) hc dX7_place_37 rfl rfl rfl ?_
      refine w_lload_n (q := 39) (i := 3) (j := 0) hc dX7_place_38 rfl rfl rfl ?_
      refine pf_X7_38 (q := 42) hc dX7_place_39 (k_0 hK) rfl (fun L_3 => ?_)
      refine w_aload_n (q := 43) (i := 0) (j := 1) hc dX7_place_42 rfl rfl rfl ?_
      refine w_aload_n (q := 44) (i := 0) (j := 1) hc dX7_place_43 rfl rfl rfl ?_
      refine gf_X7_19 (q := 47) hc dX7_place_44 (k_0 hK) (r_0_1 hR) rfl ?_
      refine gf_X7_163 (q := 50) hc dX7_place_47 (k_6 hK) (r_6_3 hR) rfl ?_
      refine w_lload_n (q := 51) (i := 3) (j := 0) hc dX7_place_50 rfl rfl rfl ?_
      refine w_callV_Ri (q := 54) (st := [.ref 0]) (args := [.long q_1]) (p := 8) hc (m_X0_follow hK hR (ch_8)) dX7_place_51 ml_X7_184 cf_X0_follow iv_X0_follow (k_8 hK) (C := RX0) (T := TX0) (N := 8) rfl rfl (Nat.lt_of_succ_le (Nat.le_of_ble_eq_true rfl)) rfl rfl (Nat.le_of_ble_eq_true rfl) ⟨Nat.le_of_ble_eq_true rfl, Nat.le_of_ble_eq_true rfl⟩ rfl (fun q_4 => ?_)
      refine w_callV_Wi (q := 57) (st := []) (args := [.int q_4]) (p := 0) hc (m_X7_tell hK hR) dX7_place_54 ml_X7_86 cf_X7_tell iv_X7_tell (k_0 hK) (C := RX7) (T := TX7) (N := 7) rfl rfl (Nat.lt_of_succ_le (Nat.le_of_ble_eq_true rfl)) rfl rfl (Nat.le_of_ble_eq_true rfl) ⟨Nat.le_of_ble_eq_true rfl, Nat.le_of_ble_eq_true rfl⟩ rfl (fun q_5 => ?_)
      exact w_ireturn (v := q_5.1) hc hq dX7_place_57 rfl rfl rfl
  · refine w_aload_n (q := 13) (i := 0) (j := 1) hc dX7_place_12 rfl rfl rfl ?_
    refine w_iconst (q := 14) hc dX7_place_13 ci_1 rfl ?_
    refine w_callV_Wi (q := 17) (st := []) (args := [.int 1]) (p := 0) hc (m_X7_refuse hK hR) dX7_place_14 ml_X7_56 cf_X7_refuse iv_X7_refuse (k_0 hK) (C := RX7) (T := TX7) (N := 7) rfl rfl (Nat.lt_of_succ_le (Nat.le_of_ble_eq_true rfl)) rfl rfl (Nat.le_of_ble_eq_true rfl) ⟨Nat.le_of_ble_eq_true rfl, Nat.le_of_ble_eq_true rfl⟩ rfl (fun q_7 => ?_)
    exact w_ireturn (v := q_7.1) hc hq dX7_place_17 rfl rfl rfl
set_option maxRecDepth 100000 in
set_option maxHeartbeats 4000000 in
theorem m_X7_home {l : Launch} {K : KT} {R : MR} {rm : Nat} {I : MI} {L : ML} (hK0 : K = lK rm) (hR0 : R = lR rm) : MFg l yX7_home cX7_home 2 (some .int) 4 125 [.ref 0] K R I L anIW meW (f_X7_home I L) := by
  refine mf_of (plainFor_of_name (by decide)) (Nat.le_of_ble_eq_true rfl) ?_
  intro G hc _ hK1 hR1 hn hq
  have hK := hK1.trans hK0
  have hR := hR1.trans hR0
  have hN : ∀ i, Nat.blt i 2 = true → i < gnL G := fun i h => hn ▸ Nat.blt_eq.mp h
  unfold f_X7_home
  show WW G 0 [(0, .ref 0)] [] I L _
  refine w_aload_n (q := 1) (i := 0) (j := 0) hc dX7_home_0 rfl rfl rfl ?_
  refine gf_X7_19 (q := 4) hc dX7_home_1 (k_0 hK) (r_0_1 hR) rfl ?_
  refine gf_X7_95 (q := 7) hc dX7_home_4 (k_6 hK) rfl ?_
  refine w_ifne (q := 10) (tgt := 16) hc dX7_home_7 rfl rfl ?_ ?_
  · refine w_aload_n (q := 11) (i := 0) (j := 0) hc dX7_home_10 rfl rfl rfl ?_
    refine w_iconst (q := 12) hc dX7_home_11 ci_5 rfl ?_
    refine w_callV_Wi (q := 15) (st := []) (args := [.int 5]) (p := 0) hc (m_X7_refuse hK hR) dX7_home_12 ml_X7_56 cf_X7_refuse iv_X7_refuse (k_0 hK) (C := RX7) (T := TX7) (N := 7) rfl rfl (Nat.lt_of_succ_le (Nat.le_of_ble_eq_true rfl)) rfl rfl (Nat.le_of_ble_eq_true rfl) ⟨Nat.le_of_ble_eq_true rfl, Nat.le_of_ble_eq_true rfl⟩ rfl (fun q_8 => ?_)
    exact w_ireturn (v := q_8.1) hc hq dX7_home_15 rfl rfl rfl
  · refine w_aload_n (q := 17) (i := 0) (j := 0) hc dX7_home_16 rfl rfl rfl ?_
    refine w_aload_n (q := 18) (i := 0) (j := 0) hc dX7_home_17 rfl rfl rfl ?_
    refine gf_X7_38 (q := 21) hc dX7_home_18 (k_0 hK) rfl ?_
    refine w_callV_Rz (q := 24) (st := []) (args := [.long (L 0 5)]) (p := 0) hc (m_X7_isHome hK hR) dX7_home_21 ml_X7_100 cf_X7_isHome iv_X7_isHome (k_0 hK) (C := RX7) (T := TX7) (N := 7) rfl rfl (Nat.lt_of_succ_le (Nat.le_of_ble_eq_true rfl)) rfl rfl (Nat.le_of_ble_eq_true rfl) ⟨Nat.le_of_ble_eq_true rfl, Nat.le_of_ble_eq_true rfl⟩ rfl (fun q_1 => ?_)
    refine w_ifeq (q := 27) (tgt := 33) hc dX7_home_24 rfl rfl ?_ ?_
    · refine w_aload_n (q := 34) (i := 0) (j := 0) hc dX7_home_33 rfl rfl rfl ?_
      refine w_callV_Wv (q := 37) (st := []) (args := []) (p := 0) hc (m_X7_keepPast hK hR) dX7_home_34 ml_X7_337 cf_X7_keepPast iv_X7_keepPast (k_0 hK) (C := RX7) (T := TX7) (N := 7) rfl rfl (Nat.lt_of_succ_le (Nat.le_of_ble_eq_true rfl)) rfl rfl (Nat.le_of_ble_eq_true rfl) ⟨Nat.le_of_ble_eq_true rfl, Nat.le_of_ble_eq_true rfl⟩ rfl (fun q_2 => ?_)
      refine w_aload_n (q := 38) (i := 0) (j := 0) hc dX7_home_37 rfl rfl rfl ?_
      refine w_callV_Ri (q := 41) (st := []) (args := []) (p := 0) hc (m_X7_countAway hK hR) dX7_home_38 ml_X7_340 cf_X7_countAway iv_X7_countAway (k_0 hK) (C := RX7) (T := TX7) (N := 7) rfl rfl (Nat.lt_of_succ_le (Nat.le_of_ble_eq_true rfl)) rfl rfl (Nat.le_of_ble_eq_true rfl) ⟨Nat.le_of_ble_eq_true rfl, Nat.le_of_ble_eq_true rfl⟩ rfl (fun q_3 => ?_)
      refine w_istore_n (q := 42) (i := 1) (lv' := [(1, .int q_3), (0, .ref 0)]) hc dX7_home_41 rfl (hN 1 rfl) rfl rfl ?_
      refine w_aload_n (q := 43) (i := 0) (j := 1) hc dX7_home_42 rfl rfl rfl ?_
      refine w_aload_n (q := 44) (i := 0) (j := 1) hc dX7_home_43 rfl rfl rfl ?_
      refine gf_X7_19 (q := 47) hc dX7_home_44 (k_0 hK) (r_0_1 hR) rfl ?_
      refine gf_X7_95 (q := 50) hc dX7_home_47 (k_6 hK) rfl ?_
      refine w_callS_Rl (q := 53) (st := [.ref 0]) (args := [.int (q_2.1 6 0)]) hc (m_X6_identity hK hR) dX7_home_50 ml_X7_77 cf_X6_identity st_X6_identity rfl rfl (Nat.le_of_ble_eq_true rfl) ⟨Nat.le_of_ble_eq_true rfl, Nat.le_of_ble_eq_true rfl⟩ rfl (fun q_4 => ?_)
      refine pf_X7_38 (q := 56) hc dX7_home_53 (k_0 hK) rfl (fun L_5 => ?_)
      refine w_aload_n (q := 57) (i := 0) (j := 1) hc dX7_home_56 rfl rfl rfl ?_
      refine w_iload_n (q := 58) (i := 1) (j := 0) hc dX7_home_57 rfl rfl rfl ?_
      refine w_callV_Wi (q := 61) (st := []) (args := [.int q_3]) (p := 0) hc (m_X7_tell hK hR) dX7_home_58 ml_X7_86 cf_X7_tell iv_X7_tell (k_0 hK) (C := RX7) (T := TX7) (N := 7) rfl rfl (Nat.lt_of_succ_le (Nat.le_of_ble_eq_true rfl)) rfl rfl (Nat.le_of_ble_eq_true rfl) ⟨Nat.le_of_ble_eq_true rfl, Nat.le_of_ble_eq_true rfl⟩ rfl (fun q_6 => ?_)
      exact w_ireturn (v := q_6.1) hc hq dX7_home_61 rfl rfl rfl
    · refine w_aload_n (q := 28) (i := 0) (j := 0) hc dX7_home_27 rfl rfl rfl ?_
      refine w_iconst (q := 29) hc dX7_home_28 ci_4 rfl ?_
      refine w_callV_Wi (q := 32) (st := []) (args := [.int 4]) (p := 0) hc (m_X7_refuse hK hR) dX7_home_29 ml_X7_56 cf_X7_refuse iv_X7_refuse (k_0 hK) (C := RX7) (T := TX7) (N := 7) rfl rfl (Nat.lt_of_succ_le (Nat.le_of_ble_eq_true rfl)) rfl rfl (Nat.le_of_ble_eq_true rfl) ⟨Nat.le_of_ble_eq_true rfl, Nat.le_of_ble_eq_true rfl⟩ rfl (fun q_7 => ?_)
      exact w_ireturn (v := q_7.1) hc hq dX7_home_32 rfl rfl rfl
set_option maxRecDepth 100000 in
set_option maxHeartbeats 4000000 in
theorem m_X7_add {l : Launch} {K : KT} {R : MR} {rm : Nat} {a1 : Int64} {I : MI} {L : ML} (hK0 : K = lK rm) (hR0 : R = lR rm) : MFg l yX7_add cX7_add 5 (some .int) 7 180 [.ref 0, .long a1] K R I L anIW meW (f_X7_add a1 I L) := by
  refine mf_of (plainFor_of_name (by decide)) (Nat.le_of_ble_eq_true rfl) ?_
  intro G hc _ hK1 hR1 hn hq
  have hK := hK1.trans hK0
  have hR := hR1.trans hR0
  have hN : ∀ i, Nat.blt i 5 = true → i < gnL G := fun i h => hn ▸ Nat.blt_eq.mp h
  unfold f_X7_add
  show WW G 0 [(0, .ref 0), (1, .long a1)] [] I L _
  refine w_aload_n (q := 1) (i := 0) (j := 0) hc dX7_add_0 rfl rfl rfl ?_
  refine w_lload_n (q := 2) (i := 1) (j := 1) hc dX7_add_1 rfl rfl rfl ?_
  refine w_callV_Rl (q := 5) (st := []) (args := [.long a1]) (p := 0) hc (m_X7_read hK hR) dX7_add_2 ml_X7_114 cf_X7_read iv_X7_read (k_0 hK) (C := RX7) (T := TX7) (N := 7) rfl rfl (Nat.lt_of_succ_le (Nat.le_of_ble_eq_true rfl)) rfl rfl (Nat.le_of_ble_eq_true rfl) ⟨Nat.le_of_ble_eq_true rfl, Nat.le_of_ble_eq_true rfl⟩ rfl (fun q_1 => ?_)
  refine w_lstore_n (q := 6) (i := 3) (lv' := [(3, .long q_1), (0, .ref 0), (1, .long a1)]) hc dX7_add_5 rfl (hN 4 rfl) rfl rfl ?_
  refine w_lload_n (q := 7) (i := 3) (j := 0) hc dX7_add_6 rfl rfl rfl ?_
  refine w_lconst (q := 8) hc dX7_add_7 cl_0 rfl ?_
  refine w_lcmp (q := 9) hc dX7_add_8  rfl ?_
  refine w_ifge (q := 12) (tgt := 18) hc dX7_add_9 rfl rfl ?_ ?_
  · refine w_aload_n (q := 19) (i := 0) (j := 1) hc dX7_add_18 rfl rfl rfl ?_
    refine gf_X7_19 (q := 22) hc dX7_add_19 (k_0 hK) (r_0_1 hR) rfl ?_
    refine gf_X7_96 (q := 25) hc dX7_add_22 (k_6 hK) rfl ?_
    refine w_bipush (q := 27) hc dX7_add_25 cb_6 rfl ?_
    refine w_icmplt (q := 30) (tgt := 36) hc dX7_add_27 rfl rfl ?_ ?_
    · refine w_aload_n (q := 37) (i := 0) (j := 1) hc dX7_add_36 rfl rfl rfl ?_
      refine w_callV_Wv (q := 40) (st := []) (args := []) (p := 0) hc (m_X7_keepPast hK hR) dX7_add_37 ml_X7_337 cf_X7_keepPast iv_X7_keepPast (k_0 hK) (C := RX7) (T := TX7) (N := 7) rfl rfl (Nat.lt_of_succ_le (Nat.le_of_ble_eq_true rfl)) rfl rfl (Nat.le_of_ble_eq_true rfl) ⟨Nat.le_of_ble_eq_true rfl, Nat.le_of_ble_eq_true rfl⟩ rfl (fun q_2 => ?_)
      refine w_aload_n (q := 41) (i := 0) (j := 1) hc dX7_add_40 rfl rfl rfl ?_
      refine gf_X7_19 (q := 44) hc dX7_add_41 (k_0 hK) (r_0_1 hR) rfl ?_
      refine w_lload_n (q := 45) (i := 3) (j := 0) hc dX7_add_44 rfl rfl rfl ?_
      refine w_callV_Wv (q := 48) (st := []) (args := [.long q_1]) (p := 6) hc (m_X2_take hK hR) dX7_add_45 ml_X7_343 cf_X2_take iv_X2_take (k_6 hK) (C := RX2) (T := TX2) (N := 13) rfl rfl (Nat.lt_of_succ_le (Nat.le_of_ble_eq_true rfl)) rfl rfl (Nat.le_of_ble_eq_true rfl) ⟨Nat.le_of_ble_eq_true rfl, Nat.le_of_ble_eq_true rfl⟩ rfl (fun q_3 => ?_)
      refine w_aload_n (q := 49) (i := 0) (j := 1) hc dX7_add_48 rfl rfl rfl ?_
      refine w_aload_n (q := 50) (i := 0) (j := 1) hc dX7_add_49 rfl rfl rfl ?_
      refine gf_X7_19 (q := 53) hc dX7_add_50 (k_0 hK) (r_0_1 hR) rfl ?_
      refine w_callV_Ri (q := 56) (st := [.ref 0]) (args := []) (p := 6) hc (m_X2_size hK hR) dX7_add_53 ml_X7_178 cf_X2_size iv_X2_size (k_6 hK) (C := RX2) (T := TX2) (N := 13) rfl rfl (Nat.lt_of_succ_le (Nat.le_of_ble_eq_true rfl)) rfl rfl (Nat.le_of_ble_eq_true rfl) ⟨Nat.le_of_ble_eq_true rfl, Nat.le_of_ble_eq_true rfl⟩ rfl (fun q_4 => ?_)
      refine w_callV_Wi (q := 59) (st := []) (args := [.int q_4]) (p := 0) hc (m_X7_tell hK hR) dX7_add_56 ml_X7_86 cf_X7_tell iv_X7_tell (k_0 hK) (C := RX7) (T := TX7) (N := 7) rfl rfl (Nat.lt_of_succ_le (Nat.le_of_ble_eq_true rfl)) rfl rfl (Nat.le_of_ble_eq_true rfl) ⟨Nat.le_of_ble_eq_true rfl, Nat.le_of_ble_eq_true rfl⟩ rfl (fun q_5 => ?_)
      exact w_ireturn (v := q_5.1) hc hq dX7_add_59 rfl rfl rfl
    · refine w_aload_n (q := 31) (i := 0) (j := 1) hc dX7_add_30 rfl rfl rfl ?_
      refine w_iconst (q := 32) hc dX7_add_31 ci_3 rfl ?_
      refine w_callV_Wi (q := 35) (st := []) (args := [.int 3]) (p := 0) hc (m_X7_refuse hK hR) dX7_add_32 ml_X7_56 cf_X7_refuse iv_X7_refuse (k_0 hK) (C := RX7) (T := TX7) (N := 7) rfl rfl (Nat.lt_of_succ_le (Nat.le_of_ble_eq_true rfl)) rfl rfl (Nat.le_of_ble_eq_true rfl) ⟨Nat.le_of_ble_eq_true rfl, Nat.le_of_ble_eq_true rfl⟩ rfl (fun q_6 => ?_)
      exact w_ireturn (v := q_6.1) hc hq dX7_add_35 rfl rfl rfl
  · refine w_aload_n (q := 13) (i := 0) (j := 1) hc dX7_add_12 rfl rfl rfl ?_
    refine w_iconst (q := 14) hc dX7_add_13 ci_1 rfl ?_
    refine w_callV_Wi (q := 17) (st := []) (args := [.int 1]) (p := 0) hc (m_X7_refuse hK hR) dX7_add_14 ml_X7_56 cf_X7_refuse iv_X7_refuse (k_0 hK) (C := RX7) (T := TX7) (N := 7) rfl rfl (Nat.lt_of_succ_le (Nat.le_of_ble_eq_true rfl)) rfl rfl (Nat.le_of_ble_eq_true rfl) ⟨Nat.le_of_ble_eq_true rfl, Nat.le_of_ble_eq_true rfl⟩ rfl (fun q_7 => ?_)
    exact w_ireturn (v := q_7.1) hc hq dX7_add_17 rfl rfl rfl
set_option maxRecDepth 100000 in
set_option maxHeartbeats 4000000 in
theorem m_X7_drop {l : Launch} {K : KT} {R : MR} {rm : Nat} {a1 : Int32} {I : MI} {L : ML} (hK0 : K = lK rm) (hR0 : R = lR rm) : MFg l yX7_drop cX7_drop 2 (some .int) 7 180 [.ref 0, .int a1] K R I L anIW meW (f_X7_drop a1 I L) := by
  refine mf_of (plainFor_of_name (by decide)) (Nat.le_of_ble_eq_true rfl) ?_
  intro G hc _ hK1 hR1 hn hq
  have hK := hK1.trans hK0
  have hR := hR1.trans hR0
  have hN : ∀ i, Nat.blt i 2 = true → i < gnL G := fun i h => hn ▸ Nat.blt_eq.mp h
  unfold f_X7_drop
  show WW G 0 [(0, .ref 0), (1, .int a1)] [] I L _
  refine w_iload_n (q := 1) (i := 1) (j := 1) hc dX7_drop_0 rfl rfl rfl ?_
  refine w_iflt (q := 4) (tgt := 15) hc dX7_drop_1 rfl rfl ?_ ?_
  · refine w_aload_n (q := 16) (i := 0) (j := 0) hc dX7_drop_15 rfl rfl rfl ?_
    refine w_iconst (q := 17) hc dX7_drop_16 ci_2 rfl ?_
    refine w_callV_Wi (q := 20) (st := []) (args := [.int 2]) (p := 0) hc (m_X7_refuse hK hR) dX7_drop_17 ml_X7_56 cf_X7_refuse iv_X7_refuse (k_0 hK) (C := RX7) (T := TX7) (N := 7) rfl rfl (Nat.lt_of_succ_le (Nat.le_of_ble_eq_true rfl)) rfl rfl (Nat.le_of_ble_eq_true rfl) ⟨Nat.le_of_ble_eq_true rfl, Nat.le_of_ble_eq_true rfl⟩ rfl (fun q_1 => ?_)
    exact w_ireturn (v := q_1.1) hc hq dX7_drop_20 rfl rfl rfl
  · refine w_iload_n (q := 5) (i := 1) (j := 1) hc dX7_drop_4 rfl rfl rfl ?_
    refine w_aload_n (q := 6) (i := 0) (j := 0) hc dX7_drop_5 rfl rfl rfl ?_
    refine gf_X7_19 (q := 9) hc dX7_drop_6 (k_0 hK) (r_0_1 hR) rfl ?_
    refine gf_X7_96 (q := 12) hc dX7_drop_9 (k_6 hK) rfl ?_
    refine w_icmplt (q := 15) (tgt := 21) hc dX7_drop_12 rfl rfl ?_ ?_
    · refine w_aload_n (q := 22) (i := 0) (j := 0) hc dX7_drop_21 rfl rfl rfl ?_
      refine w_callV_Wv (q := 25) (st := []) (args := []) (p := 0) hc (m_X7_keepPast hK hR) dX7_drop_22 ml_X7_337 cf_X7_keepPast iv_X7_keepPast (k_0 hK) (C := RX7) (T := TX7) (N := 7) rfl rfl (Nat.lt_of_succ_le (Nat.le_of_ble_eq_true rfl)) rfl rfl (Nat.le_of_ble_eq_true rfl) ⟨Nat.le_of_ble_eq_true rfl, Nat.le_of_ble_eq_true rfl⟩ rfl (fun q_2 => ?_)
      refine w_aload_n (q := 26) (i := 0) (j := 0) hc dX7_drop_25 rfl rfl rfl ?_
      refine gf_X7_19 (q := 29) hc dX7_drop_26 (k_0 hK) (r_0_1 hR) rfl ?_
      refine w_iload_n (q := 30) (i := 1) (j := 1) hc dX7_drop_29 rfl rfl rfl ?_
      refine w_callV_Wv (q := 33) (st := []) (args := [.int a1]) (p := 6) hc (m_X2_lose hK hR) dX7_drop_30 ml_X7_347 cf_X2_lose iv_X2_lose (k_6 hK) (C := RX2) (T := TX2) (N := 13) rfl rfl (Nat.lt_of_succ_le (Nat.le_of_ble_eq_true rfl)) rfl rfl (Nat.le_of_ble_eq_true rfl) ⟨Nat.le_of_ble_eq_true rfl, Nat.le_of_ble_eq_true rfl⟩ rfl (fun q_3 => ?_)
      refine w_aload_n (q := 34) (i := 0) (j := 0) hc dX7_drop_33 rfl rfl rfl ?_
      refine w_aload_n (q := 35) (i := 0) (j := 0) hc dX7_drop_34 rfl rfl rfl ?_
      refine gf_X7_19 (q := 38) hc dX7_drop_35 (k_0 hK) (r_0_1 hR) rfl ?_
      refine w_callV_Ri (q := 41) (st := [.ref 0]) (args := []) (p := 6) hc (m_X2_size hK hR) dX7_drop_38 ml_X7_178 cf_X2_size iv_X2_size (k_6 hK) (C := RX2) (T := TX2) (N := 13) rfl rfl (Nat.lt_of_succ_le (Nat.le_of_ble_eq_true rfl)) rfl rfl (Nat.le_of_ble_eq_true rfl) ⟨Nat.le_of_ble_eq_true rfl, Nat.le_of_ble_eq_true rfl⟩ rfl (fun q_4 => ?_)
      refine w_callV_Wi (q := 44) (st := []) (args := [.int q_4]) (p := 0) hc (m_X7_tell hK hR) dX7_drop_41 ml_X7_86 cf_X7_tell iv_X7_tell (k_0 hK) (C := RX7) (T := TX7) (N := 7) rfl rfl (Nat.lt_of_succ_le (Nat.le_of_ble_eq_true rfl)) rfl rfl (Nat.le_of_ble_eq_true rfl) ⟨Nat.le_of_ble_eq_true rfl, Nat.le_of_ble_eq_true rfl⟩ rfl (fun q_5 => ?_)
      exact w_ireturn (v := q_5.1) hc hq dX7_drop_44 rfl rfl rfl
    · refine w_aload_n (q := 16) (i := 0) (j := 0) hc dX7_drop_15 rfl rfl rfl ?_
      refine w_iconst (q := 17) hc dX7_drop_16 ci_2 rfl ?_
      refine w_callV_Wi (q := 20) (st := []) (args := [.int 2]) (p := 0) hc (m_X7_refuse hK hR) dX7_drop_17 ml_X7_56 cf_X7_refuse iv_X7_refuse (k_0 hK) (C := RX7) (T := TX7) (N := 7) rfl rfl (Nat.lt_of_succ_le (Nat.le_of_ble_eq_true rfl)) rfl rfl (Nat.le_of_ble_eq_true rfl) ⟨Nat.le_of_ble_eq_true rfl, Nat.le_of_ble_eq_true rfl⟩ rfl (fun q_6 => ?_)
      exact w_ireturn (v := q_6.1) hc hq dX7_drop_20 rfl rfl rfl
set_option maxRecDepth 100000 in
set_option maxHeartbeats 4000000 in
theorem m_X7_undo {l : Launch} {K : KT} {R : MR} {rm : Nat} {I : MI} {L : ML} (hK0 : K = lK rm) (hR0 : R = lR rm) : MFg l yX7_undo cX7_undo 1 (some .int) 7 182 [.ref 0] K R I L anIW meW (f_X7_undo I L) := by
  refine mf_of (plainFor_of_name (by decide)) (Nat.le_of_ble_eq_true rfl) ?_
  intro G hc _ hK1 hR1 hn hq
  have hK := hK1.trans hK0
  have hR := hR1.trans hR0
  have hN : ∀ i, Nat.blt i 1 = true → i < gnL G := fun i h => hn ▸ Nat.blt_eq.mp h
  unfold f_X7_undo
  show WW G 0 [(0, .ref 0)] [] I L _
  refine w_aload_n (q := 1) (i := 0) (j := 0) hc dX7_undo_0 rfl rfl rfl ?_
  refine gf_X7_26 (q := 4) hc dX7_undo_1 (k_0 hK) (r_0_2 hR) rfl ?_
  refine gf_X7_97 (q := 7) hc dX7_undo_4 (k_37 hK) rfl ?_
  refine w_ifne (q := 10) (tgt := 16) hc dX7_undo_7 rfl rfl ?_ ?_
  · refine w_aload_n (q := 11) (i := 0) (j := 0) hc dX7_undo_10 rfl rfl rfl ?_
    refine w_iconst (q := 12) hc dX7_undo_11 ci_5 rfl ?_
    refine w_callV_Wi (q := 15) (st := []) (args := [.int 5]) (p := 0) hc (m_X7_refuse hK hR) dX7_undo_12 ml_X7_56 cf_X7_refuse iv_X7_refuse (k_0 hK) (C := RX7) (T := TX7) (N := 7) rfl rfl (Nat.lt_of_succ_le (Nat.le_of_ble_eq_true rfl)) rfl rfl (Nat.le_of_ble_eq_true rfl) ⟨Nat.le_of_ble_eq_true rfl, Nat.le_of_ble_eq_true rfl⟩ rfl (fun q_7 => ?_)
    exact w_ireturn (v := q_7.1) hc hq dX7_undo_15 rfl rfl rfl
  · refine w_aload_n (q := 17) (i := 0) (j := 0) hc dX7_undo_16 rfl rfl rfl ?_
    refine gf_X7_26 (q := 20) hc dX7_undo_17 (k_0 hK) (r_0_2 hR) rfl ?_
    refine w_callV_Wv (q := 23) (st := []) (args := []) (p := 37) hc (m_X3_goBack hK hR) dX7_undo_20 ml_X7_350 cf_X3_goBack iv_X3_goBack (k_37 hK) (C := RX3) (T := TX3) (N := 7) rfl rfl (Nat.lt_of_succ_le (Nat.le_of_ble_eq_true rfl)) rfl rfl (Nat.le_of_ble_eq_true rfl) ⟨Nat.le_of_ble_eq_true rfl, Nat.le_of_ble_eq_true rfl⟩ rfl (fun q_1 => ?_)
    refine w_aload_n (q := 24) (i := 0) (j := 0) hc dX7_undo_23 rfl rfl rfl ?_
    refine w_aload_n (q := 25) (i := 0) (j := 0) hc dX7_undo_24 rfl rfl rfl ?_
    refine gf_X7_26 (q := 28) hc dX7_undo_25 (k_0 hK) (r_0_2 hR) rfl ?_
    refine gf_X7_353 (q := 31) hc dX7_undo_28 (k_37 hK) rfl ?_
    refine pf_X7_38 (q := 34) hc dX7_undo_31 (k_0 hK) rfl (fun L_2 => ?_)
    refine w_aload_n (q := 35) (i := 0) (j := 0) hc dX7_undo_34 rfl rfl rfl ?_
    refine gf_X7_19 (q := 38) hc dX7_undo_35 (k_0 hK) (r_0_1 hR) rfl ?_
    refine w_aload_n (q := 39) (i := 0) (j := 0) hc dX7_undo_38 rfl rfl rfl ?_
    refine gf_X7_26 (q := 42) hc dX7_undo_39 (k_0 hK) (r_0_2 hR) rfl ?_
    refine gf_X7_354 (q := 45) hc dX7_undo_42 (k_37 hK) (r_37_3 hR) rfl ?_
    refine w_aload_n (q := 46) (i := 0) (j := 0) hc dX7_undo_45 rfl rfl rfl ?_
    refine gf_X7_26 (q := 49) hc dX7_undo_46 (k_0 hK) (r_0_2 hR) rfl ?_
    refine gf_X7_355 (q := 52) hc dX7_undo_49 (k_37 hK) rfl ?_
    refine w_callV_Rz (q := 55) (st := []) (args := [.ref 38, .int (q_1.1 37 2)]) (p := 6) hc (m_X2_hasJust hK hR (kB hK (k_38 hK))) dX7_undo_52 ml_X7_356 cf_X2_hasJust iv_X2_hasJust (k_6 hK) (C := RX2) (T := TX2) (N := 13) rfl rfl (Nat.lt_of_succ_le (Nat.le_of_ble_eq_true rfl)) rfl rfl (Nat.le_of_ble_eq_true rfl) ⟨Nat.le_of_ble_eq_true rfl, Nat.le_of_ble_eq_true rfl⟩ rfl (fun q_3 => ?_)
    refine w_ifne (q := 58) (tgt := 86) hc dX7_undo_55 rfl rfl ?_ ?_
    · refine w_aload_n (q := 59) (i := 0) (j := 0) hc dX7_undo_58 rfl rfl rfl ?_
      refine gf_X7_19 (q := 62) hc dX7_undo_59 (k_0 hK) (r_0_1 hR) rfl ?_
      refine w_aload_n (q := 63) (i := 0) (j := 0) hc dX7_undo_62 rfl rfl rfl ?_
      refine gf_X7_19 (q := 66) hc dX7_undo_63 (k_0 hK) (r_0_1 hR) rfl ?_
      refine gf_X7_95 (q := 69) hc dX7_undo_66 (k_6 hK) rfl ?_
      refine w_aload_n (q := 70) (i := 0) (j := 0) hc dX7_undo_69 rfl rfl rfl ?_
      refine gf_X7_26 (q := 73) hc dX7_undo_70 (k_0 hK) (r_0_2 hR) rfl ?_
      refine gf_X7_354 (q := 76) hc dX7_undo_73 (k_37 hK) (r_37_3 hR) rfl ?_
      refine w_aload_n (q := 77) (i := 0) (j := 0) hc dX7_undo_76 rfl rfl rfl ?_
      refine gf_X7_26 (q := 80) hc dX7_undo_77 (k_0 hK) (r_0_2 hR) rfl ?_
      refine gf_X7_355 (q := 83) hc dX7_undo_80 (k_37 hK) rfl ?_
      refine w_callV_Wv (q := 86) (st := []) (args := [.int (q_1.1 6 0), .ref 38, .int (q_1.1 37 2)]) (p := 6) hc (m_X2_become hK hR (kB hK (k_38 hK))) dX7_undo_83 ml_X7_73 cf_X2_become iv_X2_become (k_6 hK) (C := RX2) (T := TX2) (N := 13) rfl rfl (Nat.lt_of_succ_le (Nat.le_of_ble_eq_true rfl)) rfl rfl (Nat.le_of_ble_eq_true rfl) ⟨Nat.le_of_ble_eq_true rfl, Nat.le_of_ble_eq_true rfl⟩ rfl (fun q_5 => ?_)
      refine w_aload_n (q := 87) (i := 0) (j := 0) hc dX7_undo_86 rfl rfl rfl ?_
      refine w_aload_n (q := 88) (i := 0) (j := 0) hc dX7_undo_87 rfl rfl rfl ?_
      refine gf_X7_26 (q := 91) hc dX7_undo_88 (k_0 hK) (r_0_2 hR) rfl ?_
      refine gf_X7_97 (q := 94) hc dX7_undo_91 (k_37 hK) rfl ?_
      refine w_callV_Wi (q := 97) (st := []) (args := [.int (q_5.1 37 0)]) (p := 0) hc (m_X7_tell hK hR) dX7_undo_94 ml_X7_86 cf_X7_tell iv_X7_tell (k_0 hK) (C := RX7) (T := TX7) (N := 7) rfl rfl (Nat.lt_of_succ_le (Nat.le_of_ble_eq_true rfl)) rfl rfl (Nat.le_of_ble_eq_true rfl) ⟨Nat.le_of_ble_eq_true rfl, Nat.le_of_ble_eq_true rfl⟩ rfl (fun q_6 => ?_)
      exact w_ireturn (v := q_6.1) hc hq dX7_undo_97 rfl rfl rfl
    · refine w_aload_n (q := 87) (i := 0) (j := 0) hc dX7_undo_86 rfl rfl rfl ?_
      refine w_aload_n (q := 88) (i := 0) (j := 0) hc dX7_undo_87 rfl rfl rfl ?_
      refine gf_X7_26 (q := 91) hc dX7_undo_88 (k_0 hK) (r_0_2 hR) rfl ?_
      refine gf_X7_97 (q := 94) hc dX7_undo_91 (k_37 hK) rfl ?_
      refine w_callV_Wi (q := 97) (st := []) (args := [.int (q_1.1 37 0)]) (p := 0) hc (m_X7_tell hK hR) dX7_undo_94 ml_X7_86 cf_X7_tell iv_X7_tell (k_0 hK) (C := RX7) (T := TX7) (N := 7) rfl rfl (Nat.lt_of_succ_le (Nat.le_of_ble_eq_true rfl)) rfl rfl (Nat.le_of_ble_eq_true rfl) ⟨Nat.le_of_ble_eq_true rfl, Nat.le_of_ble_eq_true rfl⟩ rfl (fun q_4 => ?_)
      exact w_ireturn (v := q_4.1) hc hq dX7_undo_97 rfl rfl rfl
set_option maxRecDepth 100000 in
set_option maxHeartbeats 4000000 in
theorem m_X7_printByte {l : Launch} {K : KT} {R : MR} {rm : Nat} {a1 : Int32} {I : MI} {L : ML} (hK0 : K = lK rm) (hR0 : R = lR rm) : MFg l yX7_printByte cX7_printByte 2 none 0 0 [.ref 0, .int a1] K R I L anV meV (f_X7_printByte a1 I L) := by
  refine mf_of (plainFor_of_name (by decide)) (Nat.le_of_ble_eq_true rfl) ?_
  intro G hc _ hK1 hR1 hn hq
  have hK := hK1.trans hK0
  have hR := hR1.trans hR0
  have hN : ∀ i, Nat.blt i 2 = true → i < gnL G := fun i h => hn ▸ Nat.blt_eq.mp h
  unfold f_X7_printByte
  show WW G 0 [(0, .ref 0), (1, .int a1)] [] I L _
  refine w_aload_n (q := 1) (i := 0) (j := 0) hc dX7_printByte_0 rfl rfl rfl ?_
  refine gf_X7_34 (q := 4) hc dX7_printByte_1 (k_0 hK) rfl ?_
  refine w_aload_n (q := 5) (i := 0) (j := 0) hc dX7_printByte_4 rfl rfl rfl ?_
  refine gf_X7_30 (q := 8) hc dX7_printByte_5 (k_0 hK) (r_0_3 hR) rfl ?_
  refine w_alenB (q := 9) hc dX7_printByte_8 (k_42 hK) cn_32 rfl ?_
  refine w_icmpge (q := 12) (tgt := 33) hc dX7_printByte_9 rfl rfl ?_ ?_
  · exact w_return hc hq dX7_printByte_33 rfl rfl
  · refine w_aload_n (q := 13) (i := 0) (j := 0) hc dX7_printByte_12 rfl rfl rfl ?_
    refine gf_X7_30 (q := 16) hc dX7_printByte_13 (k_0 hK) (r_0_3 hR) rfl ?_
    refine w_aload_n (q := 17) (i := 0) (j := 0) hc dX7_printByte_16 rfl rfl rfl ?_
    refine gf_X7_34 (q := 20) hc dX7_printByte_17 (k_0 hK) rfl ?_
    refine w_iload_n (q := 21) (i := 1) (j := 1) hc dX7_printByte_20 rfl rfl rfl ?_
    refine w_i2b (q := 22) hc dX7_printByte_21  rfl ?_
    refine w_bast (q := 23) hc dX7_printByte_22 (k_42 hK) rfl (fun I_1 => ?_)
    refine w_aload_n (q := 24) (i := 0) (j := 0) hc dX7_printByte_23 rfl rfl rfl ?_
    refine w_dup_ref (q := 25) hc dX7_printByte_24  rfl ?_
    refine gf_X7_34 (q := 28) hc dX7_printByte_25 (k_0 hK) rfl ?_
    refine w_iconst (q := 29) hc dX7_printByte_28 ci_1 rfl ?_
    refine w_iadd (q := 30) hc dX7_printByte_29  rfl ?_
    refine pf_X7_34 (q := 33) hc dX7_printByte_30 (k_0 hK) rfl (fun I_2 => ?_)
    exact w_return hc hq dX7_printByte_33 rfl rfl
set_option maxRecDepth 100000 in
set_option maxHeartbeats 4000000 in
theorem wl_X7_printCycle_29 {G : GT (Int32 × Mm)} {rm : Nat} (v1_5 : Int64) (v3_6 : Int32) (hc : Cx G cX7_printCycle yX7_printCycle.cls (some .int) 1 22) (hq : RetQ G anIW meW) (hK : gK G = lK rm) (hR : gR G = lR rm) (hn : gnL G = 7) (k0 : Int32 → MI → ML → Option (Int32 × Mm)) (hk0 : ∀ (v4_17 : Int32) (I_18 : MI) (L_19 : ML), WW G 80 [(0, .ref 0), (4, .int v4_17)] [] I_18 L_19 (k0 v4_17 I_18 L_19)) : ∀ (n : Nat) (v4_7 : Int32) (v5_8 : Int32) (v6_9 : Int32) (I_10 : MI) (L_11 : ML), WW G 29 [(0, .ref 0), (1, .long v1_5), (3, .int v3_6), (4, .int v4_7), (5, .int v5_8), (6, .int v6_9)] [] I_10 L_11 (f_X7_printCycle_29 v1_5 v3_6 k0 n v4_7 v5_8 v6_9 I_10 L_11) := by
  have hN : ∀ i, Nat.blt i 7 = true → i < gnL G := fun i h => hn ▸ Nat.blt_eq.mp h
  intro n
  induction n with
  | zero => intros; exact w_none _ _ _
  | succ n ih =>
    intros v4_7 v5_8 v6_9 I_10 L_11
    rw [f_X7_printCycle_29]
    refine w_iload (q := 31) (i := 6) (j := 5) hc dX7_printCycle_29 rfl rfl ?_
    refine w_bipush (q := 33) hc dX7_printCycle_31 cb_10 rfl ?_
    refine w_icmpge (q := 36) (tgt := 80) hc dX7_printCycle_33 rfl rfl ?_ ?_
    · refine w_sub [0, 3] rfl ?_
      exact hk0 v4_7 I_10 L_11
    · refine w_iload (q := 38) (i := 5) (j := 4) hc dX7_printCycle_36 rfl rfl ?_
      refine w_iload_n (q := 39) (i := 3) (j := 2) hc dX7_printCycle_38 rfl rfl rfl ?_
      refine w_icmpeq (q := 42) (tgt := 80) hc dX7_printCycle_39 rfl rfl ?_ ?_
      · refine w_sub [0, 3] rfl ?_
        exact hk0 v4_7 I_10 L_11
      · refine w_aload_n (q := 43) (i := 0) (j := 0) hc dX7_printCycle_42 rfl rfl rfl ?_
        refine w_bipush (q := 45) hc dX7_printCycle_43 cb_32 rfl ?_
        refine w_callV_Wv (q := 48) (st := []) (args := [.int 32]) (p := 0) hc (m_X7_printByte hK hR) dX7_printCycle_45 ml_X7_388 cf_X7_printByte iv_X7_printByte (k_0 hK) (C := RX7) (T := TX7) (N := 7) rfl rfl (Nat.lt_of_succ_le (Nat.le_of_ble_eq_true rfl)) rfl rfl (Nat.le_of_ble_eq_true rfl) ⟨Nat.le_of_ble_eq_true rfl, Nat.le_of_ble_eq_true rfl⟩ rfl (fun q_12 => ?_)
        refine w_aload_n (q := 49) (i := 0) (j := 0) hc dX7_printCycle_48 rfl rfl rfl ?_
        refine w_bipush (q := 51) hc dX7_printCycle_49 cb_48 rfl ?_
        refine w_iload (q := 53) (i := 5) (j := 4) hc dX7_printCycle_51 rfl rfl ?_
        refine w_iadd (q := 54) hc dX7_printCycle_53  rfl ?_
        refine w_callV_Wv (q := 57) (st := []) (args := [.int (48 + v5_8)]) (p := 0) hc (m_X7_printByte hK hR) dX7_printCycle_54 ml_X7_388 cf_X7_printByte iv_X7_printByte (k_0 hK) (C := RX7) (T := TX7) (N := 7) rfl rfl (Nat.lt_of_succ_le (Nat.le_of_ble_eq_true rfl)) rfl rfl (Nat.le_of_ble_eq_true rfl) ⟨Nat.le_of_ble_eq_true rfl, Nat.le_of_ble_eq_true rfl⟩ rfl (fun q_13 => ?_)
        refine w_iload (q := 59) (i := 4) (j := 3) hc dX7_printCycle_57 rfl rfl ?_
        refine w_iconst (q := 60) hc dX7_printCycle_59 ci_1 rfl ?_
        refine w_iload (q := 62) (i := 5) (j := 4) hc dX7_printCycle_60 rfl rfl ?_
        refine w_ishl (q := 63) hc dX7_printCycle_62  rfl ?_
        refine w_ior (q := 64) hc dX7_printCycle_63  rfl ?_
        refine w_istoreB (q := 66) (i := 4) (lv' := fun v4_14 => [(4, .int v4_14), (0, .ref 0), (1, .long v1_5), (3, .int v3_6), (5, .int v5_8), (6, .int v6_9)]) hc dX7_printCycle_64 (hN 4 rfl) (fun _ => rfl) rfl (fun v4_14 => ?_)
        refine w_lload_n (q := 67) (i := 1) (j := 2) hc dX7_printCycle_66 rfl rfl rfl ?_
        refine w_iload (q := 69) (i := 5) (j := 4) hc dX7_printCycle_67 rfl rfl ?_
        refine w_callS_Ri (q := 72) (st := []) (args := [.long v1_5, .int v5_8]) hc (m_X6_image hK hR) dX7_printCycle_69 ml_X7_120 cf_X6_image st_X6_image rfl rfl (Nat.le_of_ble_eq_true rfl) ⟨Nat.le_of_ble_eq_true rfl, Nat.le_of_ble_eq_true rfl⟩ rfl (fun q_15 => ?_)
        refine w_istore (q := 74) (i := 5) (lv' := [(5, .int q_15), (4, .int v4_14), (0, .ref 0), (1, .long v1_5), (3, .int v3_6), (6, .int v6_9)]) hc dX7_printCycle_72 (hN 5 rfl) rfl rfl ?_
        refine w_iincB (q := 77) (i := 6) (j := 5) (lv' := fun v6_16 => [(6, .int v6_16), (5, .int q_15), (4, .int v4_14), (0, .ref 0), (1, .long v1_5), (3, .int v3_6)]) hc dX7_printCycle_74 rfl ci_1 (hN 6 rfl) (fun _ => rfl) rfl (fun v6_16 => ?_)
        refine w_goto (tgt := 29) hc dX7_printCycle_77 rfl ?_
        refine w_sub [3, 4, 5, 2, 1, 0] rfl ?_
        exact ih v4_14 q_15 v6_16 q_13.1 q_13.2
set_option maxRecDepth 100000 in
set_option maxHeartbeats 4000000 in
theorem m_X7_printCycle {l : Launch} {K : KT} {R : MR} {rm : Nat} {a1 : Int64} {a3 : Int32} {I : MI} {L : ML} (hK0 : K = lK rm) (hR0 : R = lR rm) : MFg l yX7_printCycle cX7_printCycle 7 (some .int) 1 22 [.ref 0, .long a1, .int a3] K R I L anIW meW (f_X7_printCycle a1 a3 I L) := by
  refine mf_of (plainFor_of_name (by decide)) (Nat.le_of_ble_eq_true rfl) ?_
  intro G hc _ hK1 hR1 hn hq
  have hK := hK1.trans hK0
  have hR := hR1.trans hR0
  have hN : ∀ i, Nat.blt i 7 = true → i < gnL G := fun i h => hn ▸ Nat.blt_eq.mp h
  unfold f_X7_printCycle
  show WW G 0 [(0, .ref 0), (1, .long a1), (3, .int a3)] [] I L _
  refine w_aload_n (q := 1) (i := 0) (j := 0) hc dX7_printCycle_0 rfl rfl rfl ?_
  refine w_bipush (q := 3) hc dX7_printCycle_1 cb_40 rfl ?_
  refine w_callV_Wv (q := 6) (st := []) (args := [.int 40]) (p := 0) hc (m_X7_printByte hK hR) dX7_printCycle_3 ml_X7_388 cf_X7_printByte iv_X7_printByte (k_0 hK) (C := RX7) (T := TX7) (N := 7) rfl rfl (Nat.lt_of_succ_le (Nat.le_of_ble_eq_true rfl)) rfl rfl (Nat.le_of_ble_eq_true rfl) ⟨Nat.le_of_ble_eq_true rfl, Nat.le_of_ble_eq_true rfl⟩ rfl (fun q_1 => ?_)
  refine w_aload_n (q := 7) (i := 0) (j := 0) hc dX7_printCycle_6 rfl rfl rfl ?_
  refine w_bipush (q := 9) hc dX7_printCycle_7 cb_48 rfl ?_
  refine w_iload_n (q := 10) (i := 3) (j := 2) hc dX7_printCycle_9 rfl rfl rfl ?_
  refine w_iadd (q := 11) hc dX7_printCycle_10  rfl ?_
  refine w_callV_Wv (q := 14) (st := []) (args := [.int (48 + a3)]) (p := 0) hc (m_X7_printByte hK hR) dX7_printCycle_11 ml_X7_388 cf_X7_printByte iv_X7_printByte (k_0 hK) (C := RX7) (T := TX7) (N := 7) rfl rfl (Nat.lt_of_succ_le (Nat.le_of_ble_eq_true rfl)) rfl rfl (Nat.le_of_ble_eq_true rfl) ⟨Nat.le_of_ble_eq_true rfl, Nat.le_of_ble_eq_true rfl⟩ rfl (fun q_2 => ?_)
  refine w_iconst (q := 15) hc dX7_printCycle_14 ci_1 rfl ?_
  refine w_iload_n (q := 16) (i := 3) (j := 2) hc dX7_printCycle_15 rfl rfl rfl ?_
  refine w_ishl (q := 17) hc dX7_printCycle_16  rfl ?_
  refine w_istoreB (q := 19) (i := 4) (lv' := fun v4_3 => [(4, .int v4_3), (0, .ref 0), (1, .long a1), (3, .int a3)]) hc dX7_printCycle_17 (hN 4 rfl) (fun _ => rfl) rfl (fun v4_3 => ?_)
  refine w_lload_n (q := 20) (i := 1) (j := 2) hc dX7_printCycle_19 rfl rfl rfl ?_
  refine w_iload_n (q := 21) (i := 3) (j := 3) hc dX7_printCycle_20 rfl rfl rfl ?_
  refine w_callS_Ri (q := 24) (st := []) (args := [.long a1, .int a3]) hc (m_X6_image hK hR) dX7_printCycle_21 ml_X7_120 cf_X6_image st_X6_image rfl rfl (Nat.le_of_ble_eq_true rfl) ⟨Nat.le_of_ble_eq_true rfl, Nat.le_of_ble_eq_true rfl⟩ rfl (fun q_4 => ?_)
  refine w_istore (q := 26) (i := 5) (lv' := [(5, .int q_4), (4, .int v4_3), (0, .ref 0), (1, .long a1), (3, .int a3)]) hc dX7_printCycle_24 (hN 5 rfl) rfl rfl ?_
  refine w_iconst (q := 27) hc dX7_printCycle_26 ci_0 rfl ?_
  refine w_istore (q := 29) (i := 6) (lv' := [(6, .int 0), (5, .int q_4), (4, .int v4_3), (0, .ref 0), (1, .long a1), (3, .int a3)]) hc dX7_printCycle_27 (hN 6 rfl) rfl rfl ?_
  refine w_sub [3, 4, 5, 2, 1, 0] rfl ?_
  refine wl_X7_printCycle_29 a1 a3 hc hq hK hR hn _ ?_ FU v4_3 q_4 0 q_2.1 q_2.2
  intro v4_17 I_18 L_19
  refine w_aload_n (q := 81) (i := 0) (j := 0) hc dX7_printCycle_80 rfl rfl rfl ?_
  refine w_bipush (q := 83) hc dX7_printCycle_81 cb_41 rfl ?_
  refine w_callV_Wv (q := 86) (st := []) (args := [.int 41]) (p := 0) hc (m_X7_printByte hK hR) dX7_printCycle_83 ml_X7_388 cf_X7_printByte iv_X7_printByte (k_0 hK) (C := RX7) (T := TX7) (N := 7) rfl rfl (Nat.lt_of_succ_le (Nat.le_of_ble_eq_true rfl)) rfl rfl (Nat.le_of_ble_eq_true rfl) ⟨Nat.le_of_ble_eq_true rfl, Nat.le_of_ble_eq_true rfl⟩ rfl (fun q_20 => ?_)
  refine w_iload (q := 88) (i := 4) (j := 1) hc dX7_printCycle_86 rfl rfl ?_
  exact w_ireturn (v := v4_17) hc hq dX7_printCycle_88 rfl rfl rfl
set_option maxRecDepth 100000 in
set_option maxHeartbeats 4000000 in
theorem wl_X7_printCycles_10 {G : GT Mm} {rm : Nat} (v1_2 : Int64) (hc : Cx G cX7_printCycles yX7_printCycles.cls none 2 48) (hq : RetQ G anV meV) (hK : gK G = lK rm) (hR : gR G = lR rm) (hn : gnL G = 6) (k0 : MI → ML → Option Mm) (hk0 : ∀ (I_16 : MI) (L_17 : ML), WW G 77 [(0, .ref 0)] [] I_16 L_17 (k0 I_16 L_17)) : ∀ (n : Nat) (v3_3 : Int32) (v4_4 : Int32) (I_5 : MI) (L_6 : ML), WW G 10 [(0, .ref 0), (1, .long v1_2), (3, .int v3_3), (4, .int v4_4)] [] I_5 L_6 (f_X7_printCycles_10 v1_2 k0 n v3_3 v4_4 I_5 L_6) := by
  have hN : ∀ i, Nat.blt i 6 = true → i < gnL G := fun i h => hn ▸ Nat.blt_eq.mp h
  intro n
  induction n with
  | zero => intros; exact w_none _ _ _
  | succ n ih =>
    intros v3_3 v4_4 I_5 L_6
    rw [f_X7_printCycles_10]
    refine w_iload (q := 12) (i := 4) (j := 3) hc dX7_printCycles_10 rfl rfl ?_
    refine w_aload_n (q := 13) (i := 0) (j := 0) hc dX7_printCycles_12 rfl rfl rfl ?_
    refine gf_X7_19 (q := 16) hc dX7_printCycles_13 (k_0 hK) (r_0_1 hR) rfl ?_
    refine gf_X7_95 (q := 19) hc dX7_printCycles_16 (k_6 hK) rfl ?_
    refine w_icmpge (q := 22) (tgt := 77) hc dX7_printCycles_19 rfl rfl ?_ ?_
    · refine w_sub [0] rfl ?_
      exact hk0 I_5 L_6
    · refine w_iload_n (q := 23) (i := 3) (j := 2) hc dX7_printCycles_22 rfl rfl rfl ?_
      refine w_iload (q := 25) (i := 4) (j := 3) hc dX7_printCycles_23 rfl rfl ?_
      refine w_ishr (q := 26) hc dX7_printCycles_25  rfl ?_
      refine w_iconst (q := 27) hc dX7_printCycles_26 ci_1 rfl ?_
      refine w_iand (q := 28) hc dX7_printCycles_27  rfl ?_
      refine w_join (fun j36_168 : Bool → Option Mm => ∀ (s0_7 : Bool), WW G 36 [(0, .ref 0), (1, .long v1_2), (3, .int v3_3), (4, .int v4_4)] [.int (b2i s0_7)] I_5 L_6 (j36_168 s0_7)) ?_ ?_
      · intro s0_7
        refine w_istoreB (q := 38) (i := 5) (lv' := fun v5_8 => [(5, .int v5_8), (0, .ref 0), (1, .long v1_2), (3, .int v3_3), (4, .int v4_4)]) hc dX7_printCycles_36 (hN 5 rfl) (fun _ => rfl) rfl (fun v5_8 => ?_)
        refine w_iload_n (q := 39) (i := 3) (j := 3) hc dX7_printCycles_38 rfl rfl rfl ?_
        refine w_iconst (q := 40) hc dX7_printCycles_39 ci_1 rfl ?_
        refine w_iload (q := 42) (i := 4) (j := 4) hc dX7_printCycles_40 rfl rfl ?_
        refine w_ishl (q := 43) hc dX7_printCycles_42  rfl ?_
        refine w_ior (q := 44) hc dX7_printCycles_43  rfl ?_
        refine w_istore_nB (q := 45) (i := 3) (lv' := fun v3_9 => [(3, .int v3_9), (5, .int v5_8), (0, .ref 0), (1, .long v1_2), (4, .int v4_4)]) hc dX7_printCycles_44 rfl (hN 3 rfl) (fun _ => rfl) rfl (fun v3_9 => ?_)
        refine w_iload (q := 47) (i := 5) (j := 1) hc dX7_printCycles_45 rfl rfl ?_
        refine w_ifeq (q := 50) (tgt := 71) hc dX7_printCycles_47 rfl rfl ?_ ?_
        · refine w_iincB (q := 74) (i := 4) (j := 4) (lv' := fun v4_10 => [(4, .int v4_10), (3, .int v3_9), (5, .int v5_8), (0, .ref 0), (1, .long v1_2)]) hc dX7_printCycles_71 rfl ci_1 (hN 4 rfl) (fun _ => rfl) rfl (fun v4_10 => ?_)
          refine w_goto (tgt := 10) hc dX7_printCycles_74 rfl ?_
          refine w_sub [3, 4, 1, 0] rfl ?_
          exact ih v3_9 v4_10 I_5 L_6
        · refine w_lload_n (q := 51) (i := 1) (j := 3) hc dX7_printCycles_50 rfl rfl rfl ?_
          refine w_iload (q := 53) (i := 4) (j := 4) hc dX7_printCycles_51 rfl rfl ?_
          refine w_callS_Ri (q := 56) (st := []) (args := [.long v1_2, .int v4_4]) hc (m_X6_image hK hR) dX7_printCycles_53 ml_X7_120 cf_X6_image st_X6_image rfl rfl (Nat.le_of_ble_eq_true rfl) ⟨Nat.le_of_ble_eq_true rfl, Nat.le_of_ble_eq_true rfl⟩ rfl (fun q_11 => ?_)
          refine w_iload (q := 58) (i := 4) (j := 4) hc dX7_printCycles_56 rfl rfl ?_
          refine w_icmpeq (q := 61) (tgt := 71) hc dX7_printCycles_58 rfl rfl ?_ ?_
          · refine w_iincB (q := 74) (i := 4) (j := 4) (lv' := fun v4_12 => [(4, .int v4_12), (3, .int v3_9), (5, .int v5_8), (0, .ref 0), (1, .long v1_2)]) hc dX7_printCycles_71 rfl ci_1 (hN 4 rfl) (fun _ => rfl) rfl (fun v4_12 => ?_)
            refine w_goto (tgt := 10) hc dX7_printCycles_74 rfl ?_
            refine w_sub [3, 4, 1, 0] rfl ?_
            exact ih v3_9 v4_12 I_5 L_6
          · refine w_iload_n (q := 62) (i := 3) (j := 0) hc dX7_printCycles_61 rfl rfl rfl ?_
            refine w_aload_n (q := 63) (i := 0) (j := 2) hc dX7_printCycles_62 rfl rfl rfl ?_
            refine w_lload_n (q := 64) (i := 1) (j := 3) hc dX7_printCycles_63 rfl rfl rfl ?_
            refine w_iload (q := 66) (i := 4) (j := 4) hc dX7_printCycles_64 rfl rfl ?_
            refine w_callV_Wi (q := 69) (st := [.int v3_9]) (args := [.long v1_2, .int v4_4]) (p := 0) hc (m_X7_printCycle hK hR) dX7_printCycles_66 ml_X7_385 cf_X7_printCycle iv_X7_printCycle (k_0 hK) (C := RX7) (T := TX7) (N := 7) rfl rfl (Nat.lt_of_succ_le (Nat.le_of_ble_eq_true rfl)) rfl rfl (Nat.le_of_ble_eq_true rfl) ⟨Nat.le_of_ble_eq_true rfl, Nat.le_of_ble_eq_true rfl⟩ rfl (fun q_13 => ?_)
            refine w_ior (q := 70) hc dX7_printCycles_69  rfl ?_
            refine w_istore_nB (q := 71) (i := 3) (lv' := fun v3_14 => [(3, .int v3_14), (5, .int v5_8), (0, .ref 0), (1, .long v1_2), (4, .int v4_4)]) hc dX7_printCycles_70 rfl (hN 3 rfl) (fun _ => rfl) rfl (fun v3_14 => ?_)
            refine w_iincB (q := 74) (i := 4) (j := 4) (lv' := fun v4_15 => [(4, .int v4_15), (3, .int v3_14), (5, .int v5_8), (0, .ref 0), (1, .long v1_2)]) hc dX7_printCycles_71 rfl ci_1 (hN 4 rfl) (fun _ => rfl) rfl (fun v4_15 => ?_)
            refine w_goto (tgt := 10) hc dX7_printCycles_74 rfl ?_
            refine w_sub [3, 4, 1, 0] rfl ?_
            exact ih v3_14 v4_15 q_13.2.1 q_13.2.2
      · intro j36_168 hj36_168
        refine w_ifne (q := 31) (tgt := 35) hc dX7_printCycles_28 rfl rfl ?_ ?_
        · refine w_iconst (q := 32) hc dX7_printCycles_31 ci_1 rfl ?_
          refine w_goto (tgt := 36) hc dX7_printCycles_32 rfl ?_
          exact hj36_168 true
        · refine w_iconst (q := 36) hc dX7_printCycles_35 ci_0 rfl ?_
          exact hj36_168 false
set_option maxRecDepth 100000 in
set_option maxHeartbeats 4000000 in
theorem m_X7_printCycles {l : Launch} {K : KT} {R : MR} {rm : Nat} {a1 : Int64} {I : MI} {L : ML} (hK0 : K = lK rm) (hR0 : R = lR rm) : MFg l yX7_printCycles cX7_printCycles 6 none 2 48 [.ref 0, .long a1] K R I L anV meV (f_X7_printCycles a1 I L) := by
  refine mf_of (plainFor_of_name (by decide)) (Nat.le_of_ble_eq_true rfl) ?_
  intro G hc _ hK1 hR1 hn hq
  have hK := hK1.trans hK0
  have hR := hR1.trans hR0
  have hN : ∀ i, Nat.blt i 6 = true → i < gnL G := fun i h => hn ▸ Nat.blt_eq.mp h
  unfold f_X7_printCycles
  show WW G 0 [(0, .ref 0), (1, .long a1)] [] I L _
  refine w_aload_n (q := 1) (i := 0) (j := 0) hc dX7_printCycles_0 rfl rfl rfl ?_
  refine w_iconst (q := 2) hc dX7_printCycles_1 ci_0 rfl ?_
  refine pf_X7_34 (q := 5) hc dX7_printCycles_2 (k_0 hK) rfl (fun I_1 => ?_)
  refine w_iconst (q := 6) hc dX7_printCycles_5 ci_0 rfl ?_
  refine w_istore_n (q := 7) (i := 3) (lv' := [(3, .int 0), (0, .ref 0), (1, .long a1)]) hc dX7_printCycles_6 rfl (hN 3 rfl) rfl rfl ?_
  refine w_iconst (q := 8) hc dX7_printCycles_7 ci_0 rfl ?_
  refine w_istore (q := 10) (i := 4) (lv' := [(4, .int 0), (3, .int 0), (0, .ref 0), (1, .long a1)]) hc dX7_printCycles_8 (hN 4 rfl) rfl rfl ?_
  refine w_sub [2, 3, 1, 0] rfl ?_
  refine wl_X7_printCycles_10 a1 hc hq hK hR hn _ ?_ FU 0 0 I_1 L
  intro I_16 L_17
  refine w_aload_n (q := 78) (i := 0) (j := 0) hc dX7_printCycles_77 rfl rfl rfl ?_
  refine gf_X7_34 (q := 81) hc dX7_printCycles_78 (k_0 hK) rfl ?_
  refine w_ifne (q := 84) (tgt := 96) hc dX7_printCycles_81 rfl rfl ?_ ?_
  · refine w_aload_n (q := 85) (i := 0) (j := 0) hc dX7_printCycles_84 rfl rfl rfl ?_
    refine w_bipush (q := 87) hc dX7_printCycles_85 cb_40 rfl ?_
    refine w_callV_Wv (q := 90) (st := []) (args := [.int 40]) (p := 0) hc (m_X7_printByte hK hR) dX7_printCycles_87 ml_X7_388 cf_X7_printByte iv_X7_printByte (k_0 hK) (C := RX7) (T := TX7) (N := 7) rfl rfl (Nat.lt_of_succ_le (Nat.le_of_ble_eq_true rfl)) rfl rfl (Nat.le_of_ble_eq_true rfl) ⟨Nat.le_of_ble_eq_true rfl, Nat.le_of_ble_eq_true rfl⟩ rfl (fun q_18 => ?_)
    refine w_aload_n (q := 91) (i := 0) (j := 0) hc dX7_printCycles_90 rfl rfl rfl ?_
    refine w_bipush (q := 93) hc dX7_printCycles_91 cb_41 rfl ?_
    refine w_callV_Wv (q := 96) (st := []) (args := [.int 41]) (p := 0) hc (m_X7_printByte hK hR) dX7_printCycles_93 ml_X7_388 cf_X7_printByte iv_X7_printByte (k_0 hK) (C := RX7) (T := TX7) (N := 7) rfl rfl (Nat.lt_of_succ_le (Nat.le_of_ble_eq_true rfl)) rfl rfl (Nat.le_of_ble_eq_true rfl) ⟨Nat.le_of_ble_eq_true rfl, Nat.le_of_ble_eq_true rfl⟩ rfl (fun q_19 => ?_)
    exact w_return hc hq dX7_printCycles_96 rfl rfl
  · exact w_return hc hq dX7_printCycles_96 rfl rfl
set_option maxRecDepth 100000 in
set_option maxHeartbeats 4000000 in
theorem m_X7_print {l : Launch} {K : KT} {R : MR} {rm : Nat} {a1 : Int64} {I : MI} {L : ML} (hK0 : K = lK rm) (hR0 : R = lR rm) : MFg l yX7_print cX7_print 5 (some .int) 3 73 [.ref 0, .long a1] K R I L anIW meW (f_X7_print a1 I L) := by
  refine mf_of (plainFor_of_name (by decide)) (Nat.le_of_ble_eq_true rfl) ?_
  intro G hc _ hK1 hR1 hn hq
  have hK := hK1.trans hK0
  have hR := hR1.trans hR0
  have hN : ∀ i, Nat.blt i 5 = true → i < gnL G := fun i h => hn ▸ Nat.blt_eq.mp h
  unfold f_X7_print
  show WW G 0 [(0, .ref 0), (1, .long a1)] [] I L _
  refine w_aload_n (q := 1) (i := 0) (j := 0) hc dX7_print_0 rfl rfl rfl ?_
  refine w_lload_n (q := 2) (i := 1) (j := 1) hc dX7_print_1 rfl rfl rfl ?_
  refine w_callV_Rl (q := 5) (st := []) (args := [.long a1]) (p := 0) hc (m_X7_read hK hR) dX7_print_2 ml_X7_114 cf_X7_read iv_X7_read (k_0 hK) (C := RX7) (T := TX7) (N := 7) rfl rfl (Nat.lt_of_succ_le (Nat.le_of_ble_eq_true rfl)) rfl rfl (Nat.le_of_ble_eq_true rfl) ⟨Nat.le_of_ble_eq_true rfl, Nat.le_of_ble_eq_true rfl⟩ rfl (fun q_1 => ?_)
  refine w_lstore_n (q := 6) (i := 3) (lv' := [(3, .long q_1), (0, .ref 0), (1, .long a1)]) hc dX7_print_5 rfl (hN 4 rfl) rfl rfl ?_
  refine w_lload_n (q := 7) (i := 3) (j := 0) hc dX7_print_6 rfl rfl rfl ?_
  refine w_lconst (q := 8) hc dX7_print_7 cl_0 rfl ?_
  refine w_lcmp (q := 9) hc dX7_print_8  rfl ?_
  refine w_ifge (q := 12) (tgt := 18) hc dX7_print_9 rfl rfl ?_ ?_
  · refine w_aload_n (q := 19) (i := 0) (j := 1) hc dX7_print_18 rfl rfl rfl ?_
    refine w_lload_n (q := 20) (i := 3) (j := 0) hc dX7_print_19 rfl rfl rfl ?_
    refine w_callV_Wv (q := 23) (st := []) (args := [.long q_1]) (p := 0) hc (m_X7_printCycles hK hR) dX7_print_20 ml_X7_360 cf_X7_printCycles iv_X7_printCycles (k_0 hK) (C := RX7) (T := TX7) (N := 7) rfl rfl (Nat.lt_of_succ_le (Nat.le_of_ble_eq_true rfl)) rfl rfl (Nat.le_of_ble_eq_true rfl) ⟨Nat.le_of_ble_eq_true rfl, Nat.le_of_ble_eq_true rfl⟩ rfl (fun q_2 => ?_)
    refine w_aload_n (q := 24) (i := 0) (j := 1) hc dX7_print_23 rfl rfl rfl ?_
    refine w_aload_n (q := 25) (i := 0) (j := 1) hc dX7_print_24 rfl rfl rfl ?_
    refine gf_X7_34 (q := 28) hc dX7_print_25 (k_0 hK) rfl ?_
    refine w_callV_Wi (q := 31) (st := []) (args := [.int (q_2.1 0 4)]) (p := 0) hc (m_X7_tell hK hR) dX7_print_28 ml_X7_86 cf_X7_tell iv_X7_tell (k_0 hK) (C := RX7) (T := TX7) (N := 7) rfl rfl (Nat.lt_of_succ_le (Nat.le_of_ble_eq_true rfl)) rfl rfl (Nat.le_of_ble_eq_true rfl) ⟨Nat.le_of_ble_eq_true rfl, Nat.le_of_ble_eq_true rfl⟩ rfl (fun q_3 => ?_)
    exact w_ireturn (v := q_3.1) hc hq dX7_print_31 rfl rfl rfl
  · refine w_aload_n (q := 13) (i := 0) (j := 1) hc dX7_print_12 rfl rfl rfl ?_
    refine w_iconst (q := 14) hc dX7_print_13 ci_1 rfl ?_
    refine w_callV_Wi (q := 17) (st := []) (args := [.int 1]) (p := 0) hc (m_X7_refuse hK hR) dX7_print_14 ml_X7_56 cf_X7_refuse iv_X7_refuse (k_0 hK) (C := RX7) (T := TX7) (N := 7) rfl rfl (Nat.lt_of_succ_le (Nat.le_of_ble_eq_true rfl)) rfl rfl (Nat.le_of_ble_eq_true rfl) ⟨Nat.le_of_ble_eq_true rfl, Nat.le_of_ble_eq_true rfl⟩ rfl (fun q_4 => ?_)
    exact w_ireturn (v := q_4.1) hc hq dX7_print_17 rfl rfl rfl
set_option maxRecDepth 100000 in
set_option maxHeartbeats 4000000 in
theorem m_X7_out {l : Launch} {K : KT} {R : MR} {rm : Nat} {a1 : Int32} {I : MI} {L : ML} (hK0 : K = lK rm) (hR0 : R = lR rm) : MFg l yX7_out cX7_out 2 (some .int) 1 21 [.ref 0, .int a1] K R I L anIW meW (f_X7_out a1 I L) := by
  refine mf_of (plainFor_of_name (by decide)) (Nat.le_of_ble_eq_true rfl) ?_
  intro G hc _ hK1 hR1 hn hq
  have hK := hK1.trans hK0
  have hR := hR1.trans hR0
  have hN : ∀ i, Nat.blt i 2 = true → i < gnL G := fun i h => hn ▸ Nat.blt_eq.mp h
  unfold f_X7_out
  show WW G 0 [(0, .ref 0), (1, .int a1)] [] I L _
  refine w_iload_n (q := 1) (i := 1) (j := 1) hc dX7_out_0 rfl rfl rfl ?_
  refine w_ifge (q := 4) (tgt := 10) hc dX7_out_1 rfl rfl ?_ ?_
  · refine w_iload_n (q := 11) (i := 1) (j := 1) hc dX7_out_10 rfl rfl rfl ?_
    refine w_aload_n (q := 12) (i := 0) (j := 0) hc dX7_out_11 rfl rfl rfl ?_
    refine gf_X7_34 (q := 15) hc dX7_out_12 (k_0 hK) rfl ?_
    refine w_icmpge (q := 18) (tgt := 27) hc dX7_out_15 rfl rfl ?_ ?_
    · refine w_aload_n (q := 28) (i := 0) (j := 0) hc dX7_out_27 rfl rfl rfl ?_
      refine w_iconst (q := 29) hc dX7_out_28 ci_5 rfl ?_
      refine w_callV_Wi (q := 32) (st := []) (args := [.int 5]) (p := 0) hc (m_X7_refuse hK hR) dX7_out_29 ml_X7_56 cf_X7_refuse iv_X7_refuse (k_0 hK) (C := RX7) (T := TX7) (N := 7) rfl rfl (Nat.lt_of_succ_le (Nat.le_of_ble_eq_true rfl)) rfl rfl (Nat.le_of_ble_eq_true rfl) ⟨Nat.le_of_ble_eq_true rfl, Nat.le_of_ble_eq_true rfl⟩ rfl (fun q_1 => ?_)
      exact w_ireturn (v := q_1.1) hc hq dX7_out_32 rfl rfl rfl
    · refine w_iload_n (q := 19) (i := 1) (j := 1) hc dX7_out_18 rfl rfl rfl ?_
      refine w_aload_n (q := 20) (i := 0) (j := 0) hc dX7_out_19 rfl rfl rfl ?_
      refine gf_X7_30 (q := 23) hc dX7_out_20 (k_0 hK) (r_0_3 hR) rfl ?_
      refine w_alenB (q := 24) hc dX7_out_23 (k_42 hK) cn_32 rfl ?_
      refine w_icmplt (q := 27) (tgt := 33) hc dX7_out_24 rfl rfl ?_ ?_
      · refine w_aload_n (q := 34) (i := 0) (j := 0) hc dX7_out_33 rfl rfl rfl ?_
        refine w_aload_n (q := 35) (i := 0) (j := 0) hc dX7_out_34 rfl rfl rfl ?_
        refine gf_X7_30 (q := 38) hc dX7_out_35 (k_0 hK) (r_0_3 hR) rfl ?_
        refine w_iload_n (q := 39) (i := 1) (j := 1) hc dX7_out_38 rfl rfl rfl ?_
        refine w_bald (q := 40) hc dX7_out_39 (k_42 hK) rfl ?_
        refine w_callV_Wi (q := 43) (st := []) (args := [.int (I 42 (ix a1))]) (p := 0) hc (m_X7_tell hK hR) dX7_out_40 ml_X7_86 cf_X7_tell iv_X7_tell (k_0 hK) (C := RX7) (T := TX7) (N := 7) rfl rfl (Nat.lt_of_succ_le (Nat.le_of_ble_eq_true rfl)) rfl rfl (Nat.le_of_ble_eq_true rfl) ⟨Nat.le_of_ble_eq_true rfl, Nat.le_of_ble_eq_true rfl⟩ rfl (fun q_2 => ?_)
        exact w_ireturn (v := q_2.1) hc hq dX7_out_43 rfl rfl rfl
      · refine w_aload_n (q := 28) (i := 0) (j := 0) hc dX7_out_27 rfl rfl rfl ?_
        refine w_iconst (q := 29) hc dX7_out_28 ci_5 rfl ?_
        refine w_callV_Wi (q := 32) (st := []) (args := [.int 5]) (p := 0) hc (m_X7_refuse hK hR) dX7_out_29 ml_X7_56 cf_X7_refuse iv_X7_refuse (k_0 hK) (C := RX7) (T := TX7) (N := 7) rfl rfl (Nat.lt_of_succ_le (Nat.le_of_ble_eq_true rfl)) rfl rfl (Nat.le_of_ble_eq_true rfl) ⟨Nat.le_of_ble_eq_true rfl, Nat.le_of_ble_eq_true rfl⟩ rfl (fun q_3 => ?_)
        exact w_ireturn (v := q_3.1) hc hq dX7_out_32 rfl rfl rfl
  · refine w_aload_n (q := 5) (i := 0) (j := 0) hc dX7_out_4 rfl rfl rfl ?_
    refine w_iconst (q := 6) hc dX7_out_5 ci_1 rfl ?_
    refine w_callV_Wi (q := 9) (st := []) (args := [.int 1]) (p := 0) hc (m_X7_refuse hK hR) dX7_out_6 ml_X7_56 cf_X7_refuse iv_X7_refuse (k_0 hK) (C := RX7) (T := TX7) (N := 7) rfl rfl (Nat.lt_of_succ_le (Nat.le_of_ble_eq_true rfl)) rfl rfl (Nat.le_of_ble_eq_true rfl) ⟨Nat.le_of_ble_eq_true rfl, Nat.le_of_ble_eq_true rfl⟩ rfl (fun q_4 => ?_)
    exact w_ireturn (v := q_4.1) hc hq dX7_out_9 rfl rfl rfl
