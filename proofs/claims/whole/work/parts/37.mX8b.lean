set_option maxRecDepth 100000 in
set_option maxHeartbeats 4000000 in
theorem m_X8_base {l : Launch} {K : KT} {R : MR} {rm : Nat} {a1 : Int32} {I : MI} {L : ML} (hK0 : K = lK rm) (hR0 : R = lR rm) : MFg l yX8_base cX8_base 2 (some .int) 10 228 [.ref 43, .int a1] K R I L anIW meW (f_X8_base a1 I L) := by
  refine mf_of (plainFor_of_name (by decide)) (Nat.le_of_ble_eq_true rfl) ?_
  intro G hc _ hK1 hR1 hn hq
  have hK := hK1.trans hK0
  have hR := hR1.trans hR0
  have hN : ∀ i, Nat.blt i 2 = true → i < gnL G := fun i h => hn ▸ Nat.blt_eq.mp h
  unfold f_X8_base
  show WW G 0 [(0, .ref 43), (1, .int a1)] [] I L _
  refine w_aload_n (q := 1) (i := 0) (j := 0) hc dX8_base_0 rfl rfl rfl ?_
  refine w_aload_n (q := 2) (i := 0) (j := 0) hc dX8_base_1 rfl rfl rfl ?_
  refine w_iload_n (q := 3) (i := 1) (j := 1) hc dX8_base_2 rfl rfl rfl ?_
  refine w_iconst (q := 4) hc dX8_base_3 ci_m1 rfl ?_
  refine w_join (fun j12_235 : Bool → Option (Int32 × Mm) => ∀ (s0_1 : Bool), WW G 12 [(0, .ref 43), (1, .int a1)] [.int (b2i s0_1), .ref 43, .ref 43] I L (j12_235 s0_1)) ?_ ?_
  · intro s0_1
    refine w_callV_Ri (q := 15) (st := [.ref 43]) (args := [.int (b2i s0_1)]) (p := 43) hc (m_X8_whyHere hK hR) dX8_base_12 ml_X8_260 cf_X8_whyHere iv_X8_whyHere (k_43 hK) (C := RX8) (T := TX8) (N := 45) rfl rfl (Nat.lt_of_succ_le (Nat.le_of_ble_eq_true rfl)) rfl rfl (Nat.le_of_ble_eq_true rfl) ⟨Nat.le_of_ble_eq_true rfl, Nat.le_of_ble_eq_true rfl⟩ rfl (fun q_2 => ?_)
    refine w_callV_Wz (q := 18) (st := []) (args := [.int q_2]) (p := 43) hc (m_X8_is hK hR) dX8_base_15 ml_X8_194 cf_X8_is iv_X8_is (k_43 hK) (C := RX8) (T := TX8) (N := 45) rfl rfl (Nat.lt_of_succ_le (Nat.le_of_ble_eq_true rfl)) rfl rfl (Nat.le_of_ble_eq_true rfl) ⟨Nat.le_of_ble_eq_true rfl, Nat.le_of_ble_eq_true rfl⟩ rfl (fun q_3 => ?_)
    refine w_ifne (q := 21) (tgt := 23) hc dX8_base_18 rfl rfl ?_ ?_
    · refine w_iconst (q := 22) hc dX8_base_21 ci_m1 rfl ?_
      exact w_ireturn (v := (-1)) hc hq dX8_base_22 rfl rfl rfl
    · refine w_iload_n (q := 24) (i := 1) (j := 1) hc dX8_base_23 rfl rfl rfl ?_
      refine w_iconst (q := 25) hc dX8_base_24 ci_m1 rfl ?_
      refine w_icmpne (q := 28) (tgt := 35) hc dX8_base_25 rfl rfl ?_ ?_
      · refine w_aload_n (q := 29) (i := 0) (j := 0) hc dX8_base_28 rfl rfl rfl ?_
        refine w_callV_Wi (q := 32) (st := []) (args := []) (p := 43) hc (m_X8_baseMany hK hR) dX8_base_29 ml_X8_269 cf_X8_baseMany iv_X8_baseMany (k_43 hK) (C := RX8) (T := TX8) (N := 45) rfl rfl (Nat.lt_of_succ_le (Nat.le_of_ble_eq_true rfl)) rfl rfl (Nat.le_of_ble_eq_true rfl) ⟨Nat.le_of_ble_eq_true rfl, Nat.le_of_ble_eq_true rfl⟩ rfl (fun q_6 => ?_)
        refine w_goto (tgt := 44) hc dX8_base_32 rfl ?_
        exact w_ireturn (v := q_6.1) hc hq dX8_base_44 rfl rfl rfl
      · refine w_aload_n (q := 36) (i := 0) (j := 0) hc dX8_base_35 rfl rfl rfl ?_
        refine w_aload_n (q := 37) (i := 0) (j := 0) hc dX8_base_36 rfl rfl rfl ?_
        refine w_iload_n (q := 38) (i := 1) (j := 1) hc dX8_base_37 rfl rfl rfl ?_
        refine w_callV_Wi (q := 41) (st := [.ref 43]) (args := [.int a1]) (p := 43) hc (m_X8_baseAt hK hR) dX8_base_38 ml_X8_263 cf_X8_baseAt iv_X8_baseAt (k_43 hK) (C := RX8) (T := TX8) (N := 45) rfl rfl (Nat.lt_of_succ_le (Nat.le_of_ble_eq_true rfl)) rfl rfl (Nat.le_of_ble_eq_true rfl) ⟨Nat.le_of_ble_eq_true rfl, Nat.le_of_ble_eq_true rfl⟩ rfl (fun q_4 => ?_)
        refine w_callV_Wi (q := 44) (st := []) (args := [.int q_4.1]) (p := 43) hc (m_X8_there hK hR) dX8_base_41 ml_X8_272 cf_X8_there iv_X8_there (k_43 hK) (C := RX8) (T := TX8) (N := 45) rfl rfl (Nat.lt_of_succ_le (Nat.le_of_ble_eq_true rfl)) rfl rfl (Nat.le_of_ble_eq_true rfl) ⟨Nat.le_of_ble_eq_true rfl, Nat.le_of_ble_eq_true rfl⟩ rfl (fun q_5 => ?_)
        exact w_ireturn (v := q_5.1) hc hq dX8_base_44 rfl rfl rfl
  · intro j12_235 hj12_235
    refine w_icmplt (q := 7) (tgt := 11) hc dX8_base_4 rfl rfl ?_ ?_
    · refine w_iconst (q := 12) hc dX8_base_11 ci_1 rfl ?_
      exact hj12_235 true
    · refine w_iconst (q := 8) hc dX8_base_7 ci_0 rfl ?_
      refine w_goto (tgt := 12) hc dX8_base_8 rfl ?_
      exact hj12_235 false
set_option maxRecDepth 100000 in
set_option maxHeartbeats 4000000 in
theorem wl_X8_level_44 {G : GT (Int32 × Mm)} {rm : Nat} (v2_6 : Int32) (I : MI) (L : ML) (hc : Cx G cX8_level yX8_level.cls (some .int) 9 207) (hq : RetQ G anIW meW) (hK : gK G = lK rm) (hR : gR G = lR rm) (hn : gnL G = 5) : ∀ (n : Nat) (v3_7 : Int32) (v4_8 : Int32), WW G 44 [(0, .ref 43), (2, .int v2_6), (3, .int v3_7), (4, .int v4_8)] [] I L (f_X8_level_44 v2_6 I L n v3_7 v4_8) := by
  have hN : ∀ i, Nat.blt i 5 = true → i < gnL G := fun i h => hn ▸ Nat.blt_eq.mp h
  intro n
  induction n with
  | zero => intros; exact w_none _ _ _
  | succ n ih =>
    intros v3_7 v4_8
    rw [f_X8_level_44]
    refine w_iload (q := 46) (i := 4) (j := 3) hc dX8_level_44 rfl rfl ?_
    refine w_aload_n (q := 47) (i := 0) (j := 0) hc dX8_level_46 rfl rfl rfl ?_
    refine gf_X8_118 (q := 50) hc dX8_level_47 (k_43 hK) rfl ?_
    refine w_icmpge (q := 53) (tgt := 85) hc dX8_level_50 rfl rfl ?_ ?_
    · refine w_iload_n (q := 86) (i := 3) (j := 2) hc dX8_level_85 rfl rfl rfl ?_
      exact w_ireturn (v := v3_7) hc hq dX8_level_86 rfl rfl rfl
    · refine w_iload_n (q := 54) (i := 3) (j := 2) hc dX8_level_53 rfl rfl rfl ?_
      refine w_aload_n (q := 55) (i := 0) (j := 0) hc dX8_level_54 rfl rfl rfl ?_
      refine gf_X8_34 (q := 58) hc dX8_level_55 (k_43 hK) (r_43_12 hR) rfl ?_
      refine w_bipush (q := 60) hc dX8_level_58 cb_10 rfl ?_
      refine w_iload_n (q := 61) (i := 2) (j := 1) hc dX8_level_60 rfl rfl rfl ?_
      refine w_imul (q := 62) hc dX8_level_61  rfl ?_
      refine w_iload (q := 64) (i := 4) (j := 3) hc dX8_level_62 rfl rfl ?_
      refine w_iadd (q := 65) hc dX8_level_64  rfl ?_
      refine w_zald (q := 66) hc dX8_level_65 (k_52 hK) rfl ?_
      refine w_ifeq (q := 69) (tgt := 76) hc dX8_level_66 rfl rfl ?_ ?_
      · refine w_iconst (q := 77) hc dX8_level_76 ci_0 rfl ?_
        refine w_ior (q := 78) hc dX8_level_77  rfl ?_
        refine w_istore_nB (q := 79) (i := 3) (lv' := fun v3_9 => [(3, .int v3_9), (0, .ref 43), (2, .int v2_6), (4, .int v4_8)]) hc dX8_level_78 rfl (hN 3 rfl) (fun _ => rfl) rfl (fun v3_9 => ?_)
        refine w_iincB (q := 82) (i := 4) (j := 3) (lv' := fun v4_10 => [(4, .int v4_10), (3, .int v3_9), (0, .ref 43), (2, .int v2_6)]) hc dX8_level_79 rfl ci_1 (hN 4 rfl) (fun _ => rfl) rfl (fun v4_10 => ?_)
        refine w_goto (tgt := 44) hc dX8_level_82 rfl ?_
        refine w_sub [2, 3, 1, 0] rfl ?_
        exact ih v3_9 v4_10
      · refine w_iconst (q := 70) hc dX8_level_69 ci_1 rfl ?_
        refine w_iload (q := 72) (i := 4) (j := 3) hc dX8_level_70 rfl rfl ?_
        refine w_ishl (q := 73) hc dX8_level_72  rfl ?_
        refine w_goto (tgt := 77) hc dX8_level_73 rfl ?_
        refine w_ior (q := 78) hc dX8_level_77  rfl ?_
        refine w_istore_nB (q := 79) (i := 3) (lv' := fun v3_11 => [(3, .int v3_11), (0, .ref 43), (2, .int v2_6), (4, .int v4_8)]) hc dX8_level_78 rfl (hN 3 rfl) (fun _ => rfl) rfl (fun v3_11 => ?_)
        refine w_iincB (q := 82) (i := 4) (j := 3) (lv' := fun v4_12 => [(4, .int v4_12), (3, .int v3_11), (0, .ref 43), (2, .int v2_6)]) hc dX8_level_79 rfl ci_1 (hN 4 rfl) (fun _ => rfl) rfl (fun v4_12 => ?_)
        refine w_goto (tgt := 44) hc dX8_level_82 rfl ?_
        refine w_sub [2, 3, 1, 0] rfl ?_
        exact ih v3_11 v4_12
set_option maxRecDepth 100000 in
set_option maxHeartbeats 4000000 in
theorem m_X8_level {l : Launch} {K : KT} {R : MR} {rm : Nat} {a1 : Int32} {I : MI} {L : ML} (hK0 : K = lK rm) (hR0 : R = lR rm) : MFg l yX8_level cX8_level 5 (some .int) 9 207 [.ref 43, .int a1] K R I L anIW meW (f_X8_level a1 I L) := by
  refine mf_of (plainFor_of_name (by decide)) (Nat.le_of_ble_eq_true rfl) ?_
  intro G hc _ hK1 hR1 hn hq
  have hK := hK1.trans hK0
  have hR := hR1.trans hR0
  have hN : ∀ i, Nat.blt i 5 = true → i < gnL G := fun i h => hn ▸ Nat.blt_eq.mp h
  unfold f_X8_level
  show WW G 0 [(0, .ref 43), (1, .int a1)] [] I L _
  refine w_aload_n (q := 1) (i := 0) (j := 0) hc dX8_level_0 rfl rfl rfl ?_
  refine w_aload_n (q := 2) (i := 0) (j := 0) hc dX8_level_1 rfl rfl rfl ?_
  refine w_iload_n (q := 3) (i := 1) (j := 1) hc dX8_level_2 rfl rfl rfl ?_
  refine w_join (fun j11_236 : Bool → Option (Int32 × Mm) => ∀ (s0_1 : Bool), WW G 11 [(0, .ref 43), (1, .int a1)] [.int (b2i s0_1), .ref 43, .ref 43] I L (j11_236 s0_1)) ?_ ?_
  · intro s0_1
    refine w_callV_Ri (q := 14) (st := [.ref 43]) (args := [.int (b2i s0_1)]) (p := 43) hc (m_X8_whyHere hK hR) dX8_level_11 ml_X8_260 cf_X8_whyHere iv_X8_whyHere (k_43 hK) (C := RX8) (T := TX8) (N := 45) rfl rfl (Nat.lt_of_succ_le (Nat.le_of_ble_eq_true rfl)) rfl rfl (Nat.le_of_ble_eq_true rfl) ⟨Nat.le_of_ble_eq_true rfl, Nat.le_of_ble_eq_true rfl⟩ rfl (fun q_2 => ?_)
    refine w_callV_Wz (q := 17) (st := []) (args := [.int q_2]) (p := 43) hc (m_X8_is hK hR) dX8_level_14 ml_X8_194 cf_X8_is iv_X8_is (k_43 hK) (C := RX8) (T := TX8) (N := 45) rfl rfl (Nat.lt_of_succ_le (Nat.le_of_ble_eq_true rfl)) rfl rfl (Nat.le_of_ble_eq_true rfl) ⟨Nat.le_of_ble_eq_true rfl, Nat.le_of_ble_eq_true rfl⟩ rfl (fun q_3 => ?_)
    refine w_ifne (q := 20) (tgt := 22) hc dX8_level_17 rfl rfl ?_ ?_
    · refine w_iconst (q := 21) hc dX8_level_20 ci_m1 rfl ?_
      exact w_ireturn (v := (-1)) hc hq dX8_level_21 rfl rfl rfl
    · refine w_aload_n (q := 23) (i := 0) (j := 0) hc dX8_level_22 rfl rfl rfl ?_
      refine w_iload_n (q := 24) (i := 1) (j := 1) hc dX8_level_23 rfl rfl rfl ?_
      refine w_callV_Wi (q := 27) (st := []) (args := [.int a1]) (p := 43) hc (m_X8_baseAt hK hR) dX8_level_24 ml_X8_263 cf_X8_baseAt iv_X8_baseAt (k_43 hK) (C := RX8) (T := TX8) (N := 45) rfl rfl (Nat.lt_of_succ_le (Nat.le_of_ble_eq_true rfl)) rfl rfl (Nat.le_of_ble_eq_true rfl) ⟨Nat.le_of_ble_eq_true rfl, Nat.le_of_ble_eq_true rfl⟩ rfl (fun q_4 => ?_)
      refine w_istore_nB (q := 28) (i := 2) (lv' := fun v2_5 => [(2, .int v2_5), (0, .ref 43), (1, .int a1)]) hc dX8_level_27 rfl (hN 2 rfl) (fun _ => rfl) rfl (fun v2_5 => ?_)
      refine w_iload_n (q := 29) (i := 2) (j := 0) hc dX8_level_28 rfl rfl rfl ?_
      refine w_iconst (q := 30) hc dX8_level_29 ci_m1 rfl ?_
      refine w_icmpne (q := 33) (tgt := 39) hc dX8_level_30 rfl rfl ?_ ?_
      · refine w_aload_n (q := 34) (i := 0) (j := 1) hc dX8_level_33 rfl rfl rfl ?_
        refine w_iconst (q := 35) hc dX8_level_34 ci_5 rfl ?_
        refine w_callV_Wi (q := 38) (st := []) (args := [.int 5]) (p := 43) hc (m_X8_refuse hK hR) dX8_level_35 ml_X8_266 cf_X8_refuse iv_X8_refuse (k_43 hK) (C := RX8) (T := TX8) (N := 45) rfl rfl (Nat.lt_of_succ_le (Nat.le_of_ble_eq_true rfl)) rfl rfl (Nat.le_of_ble_eq_true rfl) ⟨Nat.le_of_ble_eq_true rfl, Nat.le_of_ble_eq_true rfl⟩ rfl (fun q_13 => ?_)
        exact w_ireturn (v := q_13.1) hc hq dX8_level_38 rfl rfl rfl
      · refine w_iconst (q := 40) hc dX8_level_39 ci_0 rfl ?_
        refine w_istore_n (q := 41) (i := 3) (lv' := [(3, .int 0), (2, .int v2_5), (0, .ref 43), (1, .int a1)]) hc dX8_level_40 rfl (hN 3 rfl) rfl rfl ?_
        refine w_iconst (q := 42) hc dX8_level_41 ci_0 rfl ?_
        refine w_istore (q := 44) (i := 4) (lv' := [(4, .int 0), (3, .int 0), (2, .int v2_5), (0, .ref 43), (1, .int a1)]) hc dX8_level_42 (hN 4 rfl) rfl rfl ?_
        refine w_sub [3, 2, 1, 0] rfl ?_
        exact wl_X8_level_44 v2_5 q_4.2.1 q_4.2.2 hc hq hK hR hn FU 0 0
  · intro j11_236 hj11_236
    refine w_iflt (q := 6) (tgt := 10) hc dX8_level_3 rfl rfl ?_ ?_
    · refine w_iconst (q := 11) hc dX8_level_10 ci_1 rfl ?_
      exact hj11_236 true
    · refine w_iconst (q := 7) hc dX8_level_6 ci_0 rfl ?_
      refine w_goto (tgt := 11) hc dX8_level_7 rfl ?_
      exact hj11_236 false
set_option maxRecDepth 100000 in
set_option maxHeartbeats 4000000 in
theorem m_X8_order {l : Launch} {K : KT} {R : MR} {rm : Nat} {I : MI} {L : ML} (hK0 : K = lK rm) (hR0 : R = lR rm) : MFg l yX8_order cX8_order 1 (some .int) 9 204 [.ref 43] K R I L anIW meW (f_X8_order I L) := by
  refine mf_of (plainFor_of_name (by decide)) (Nat.le_of_ble_eq_true rfl) ?_
  intro G hc _ hK1 hR1 hn hq
  have hK := hK1.trans hK0
  have hR := hR1.trans hR0
  have hN : ∀ i, Nat.blt i 1 = true → i < gnL G := fun i h => hn ▸ Nat.blt_eq.mp h
  unfold f_X8_order
  show WW G 0 [(0, .ref 43)] [] I L _
  refine w_aload_n (q := 1) (i := 0) (j := 0) hc dX8_order_0 rfl rfl rfl ?_
  refine w_aload_n (q := 2) (i := 0) (j := 0) hc dX8_order_1 rfl rfl rfl ?_
  refine w_iconst (q := 3) hc dX8_order_2 ci_0 rfl ?_
  refine w_callV_Ri (q := 6) (st := [.ref 43]) (args := [.int 0]) (p := 43) hc (m_X8_whyHere hK hR) dX8_order_3 ml_X8_260 cf_X8_whyHere iv_X8_whyHere (k_43 hK) (C := RX8) (T := TX8) (N := 45) rfl rfl (Nat.lt_of_succ_le (Nat.le_of_ble_eq_true rfl)) rfl rfl (Nat.le_of_ble_eq_true rfl) ⟨Nat.le_of_ble_eq_true rfl, Nat.le_of_ble_eq_true rfl⟩ rfl (fun q_1 => ?_)
  refine w_callV_Wz (q := 9) (st := []) (args := [.int q_1]) (p := 43) hc (m_X8_is hK hR) dX8_order_6 ml_X8_194 cf_X8_is iv_X8_is (k_43 hK) (C := RX8) (T := TX8) (N := 45) rfl rfl (Nat.lt_of_succ_le (Nat.le_of_ble_eq_true rfl)) rfl rfl (Nat.le_of_ble_eq_true rfl) ⟨Nat.le_of_ble_eq_true rfl, Nat.le_of_ble_eq_true rfl⟩ rfl (fun q_2 => ?_)
  refine w_ifeq (q := 12) (tgt := 19) hc dX8_order_9 rfl rfl ?_ ?_
  · refine w_iconst (q := 20) hc dX8_order_19 ci_m1 rfl ?_
    exact w_ireturn (v := (-1)) hc hq dX8_order_20 rfl rfl rfl
  · refine w_aload_n (q := 13) (i := 0) (j := 0) hc dX8_order_12 rfl rfl rfl ?_
    refine w_callV_Wi (q := 16) (st := []) (args := []) (p := 43) hc (m_X8_orderNow hK hR) dX8_order_13 ml_X8_185 cf_X8_orderNow iv_X8_orderNow (k_43 hK) (C := RX8) (T := TX8) (N := 45) rfl rfl (Nat.lt_of_succ_le (Nat.le_of_ble_eq_true rfl)) rfl rfl (Nat.le_of_ble_eq_true rfl) ⟨Nat.le_of_ble_eq_true rfl, Nat.le_of_ble_eq_true rfl⟩ rfl (fun q_3 => ?_)
    refine w_goto (tgt := 20) hc dX8_order_16 rfl ?_
    exact w_ireturn (v := q_3.1) hc hq dX8_order_20 rfl rfl rfl
set_option maxRecDepth 100000 in
set_option maxHeartbeats 4000000 in
theorem m_X8_member {l : Launch} {K : KT} {R : MR} {rm : Nat} {a1 : Int64} {I : MI} {L : ML} (hK0 : K = lK rm) (hR0 : R = lR rm) : MFg l yX8_member cX8_member 3 (some .int) 8 184 [.ref 43, .long a1] K R I L anIW meW (f_X8_member a1 I L) := by
  refine mf_of (plainFor_of_name (by decide)) (Nat.le_of_ble_eq_true rfl) ?_
  intro G hc _ hK1 hR1 hn hq
  have hK := hK1.trans hK0
  have hR := hR1.trans hR0
  have hN : ∀ i, Nat.blt i 3 = true → i < gnL G := fun i h => hn ▸ Nat.blt_eq.mp h
  unfold f_X8_member
  show WW G 0 [(0, .ref 43), (1, .long a1)] [] I L _
  refine w_aload_n (q := 1) (i := 0) (j := 0) hc dX8_member_0 rfl rfl rfl ?_
  refine w_aload_n (q := 2) (i := 0) (j := 0) hc dX8_member_1 rfl rfl rfl ?_
  refine w_lload_n (q := 3) (i := 1) (j := 1) hc dX8_member_2 rfl rfl rfl ?_
  refine w_aload_n (q := 4) (i := 0) (j := 0) hc dX8_member_3 rfl rfl rfl ?_
  refine gf_X8_16 (q := 7) hc dX8_member_4 (k_43 hK) (r_43_6 hR) rfl ?_
  refine w_callV_Wz (q := 10) (st := [.ref 43]) (args := [.long a1, .ref 46]) (p := 43) hc (m_X8_lies hK hR (kB hK (k_46 hK))) dX8_member_7 ml_X8_217 cf_X8_lies iv_X8_lies (k_43 hK) (C := RX8) (T := TX8) (N := 45) rfl rfl (Nat.lt_of_succ_le (Nat.le_of_ble_eq_true rfl)) rfl rfl (Nat.le_of_ble_eq_true rfl) ⟨Nat.le_of_ble_eq_true rfl, Nat.le_of_ble_eq_true rfl⟩ rfl (fun q_1 => ?_)
  refine w_join (fun j18_238 : Bool → Option (Int32 × Mm) => ∀ (s0_2 : Bool), WW G 18 [(0, .ref 43)] [.int (b2i s0_2), .ref 43] q_1.2.1 q_1.2.2 (j18_238 s0_2)) ?_ ?_
  · intro s0_2
    refine w_callV_Wz (q := 21) (st := []) (args := [.int (b2i s0_2)]) (p := 43) hc (m_X8_is hK hR) dX8_member_18 ml_X8_194 cf_X8_is iv_X8_is (k_43 hK) (C := RX8) (T := TX8) (N := 45) rfl rfl (Nat.lt_of_succ_le (Nat.le_of_ble_eq_true rfl)) rfl rfl (Nat.le_of_ble_eq_true rfl) ⟨Nat.le_of_ble_eq_true rfl, Nat.le_of_ble_eq_true rfl⟩ rfl (fun q_3 => ?_)
    refine w_ifne (q := 24) (tgt := 26) hc dX8_member_21 rfl rfl ?_ ?_
    · refine w_iconst (q := 25) hc dX8_member_24 ci_m1 rfl ?_
      exact w_ireturn (v := (-1)) hc hq dX8_member_25 rfl rfl rfl
    · refine w_aload_n (q := 27) (i := 0) (j := 0) hc dX8_member_26 rfl rfl rfl ?_
      refine w_callV_Wv (q := 30) (st := []) (args := []) (p := 43) hc (m_X8_builds_ hK hR) dX8_member_27 ml_X8_179 cf_X8_builds_ iv_X8_builds_ (k_43 hK) (C := RX8) (T := TX8) (N := 45) rfl rfl (Nat.lt_of_succ_le (Nat.le_of_ble_eq_true rfl)) rfl rfl (Nat.le_of_ble_eq_true rfl) ⟨Nat.le_of_ble_eq_true rfl, Nat.le_of_ble_eq_true rfl⟩ rfl (fun q_4 => ?_)
      refine w_aload_n (q := 31) (i := 0) (j := 0) hc dX8_member_30 rfl rfl rfl ?_
      refine w_iconst (q := 32) hc dX8_member_31 ci_0 rfl ?_
      refine w_aload_n (q := 33) (i := 0) (j := 0) hc dX8_member_32 rfl rfl rfl ?_
      refine gf_X8_16 (q := 36) hc dX8_member_33 (k_43 hK) (r_43_6 hR) rfl ?_
      refine w_callV_Wz (q := 39) (st := []) (args := [.int 0, .ref 46]) (p := 43) hc (m_X8_isMember hK hR (kB hK (k_46 hK))) dX8_member_36 ml_X8_275 cf_X8_isMember iv_X8_isMember (k_43 hK) (C := RX8) (T := TX8) (N := 45) rfl rfl (Nat.lt_of_succ_le (Nat.le_of_ble_eq_true rfl)) rfl rfl (Nat.le_of_ble_eq_true rfl) ⟨Nat.le_of_ble_eq_true rfl, Nat.le_of_ble_eq_true rfl⟩ rfl (fun q_5 => ?_)
      refine w_ifeq (q := 42) (tgt := 46) hc dX8_member_39 rfl rfl ?_ ?_
      · refine w_iconst (q := 47) hc dX8_member_46 ci_0 rfl ?_
        exact w_ireturn (v := 0) hc hq dX8_member_47 rfl rfl rfl
      · refine w_iconst (q := 43) hc dX8_member_42 ci_1 rfl ?_
        refine w_goto (tgt := 47) hc dX8_member_43 rfl ?_
        exact w_ireturn (v := 1) hc hq dX8_member_47 rfl rfl rfl
  · intro j18_238 hj18_238
    refine w_ifeq (q := 13) (tgt := 17) hc dX8_member_10 rfl rfl ?_ ?_
    · refine w_iconst (q := 18) hc dX8_member_17 ci_1 rfl ?_
      refine w_sub [0] rfl ?_
      exact hj18_238 true
    · refine w_iconst (q := 14) hc dX8_member_13 ci_0 rfl ?_
      refine w_goto (tgt := 18) hc dX8_member_14 rfl ?_
      refine w_sub [0] rfl ?_
      exact hj18_238 false
set_option maxRecDepth 100000 in
set_option maxHeartbeats 4000000 in
theorem m_X8_followedOf {l : Launch} {K : KT} {R : MR} {rm : Nat} {a1 : Nat} {I : MI} {L : ML} (hK0 : K = lK rm) (hR0 : R = lR rm) (ha1 : (lK rm)[a1]? = some (10, 10)) : MFg l yX8_followedOf cX8_followedOf 3 (some .int) 8 184 [.ref 43, .ref a1] K R I L anIW meW (f_X8_followedOf a1 I L) := by
  refine mf_of (plainFor_of_name (by decide)) (Nat.le_of_ble_eq_true rfl) ?_
  intro G hc _ hK1 hR1 hn hq
  have hK := hK1.trans hK0
  have hR := hR1.trans hR0
  have hN : ∀ i, Nat.blt i 3 = true → i < gnL G := fun i h => hn ▸ Nat.blt_eq.mp h
  unfold f_X8_followedOf
  show WW G 0 [(0, .ref 43), (1, .ref a1)] [] I L _
  refine w_aload_n (q := 1) (i := 0) (j := 0) hc dX8_followedOf_0 rfl rfl rfl ?_
  refine w_callV_Wv (q := 4) (st := []) (args := []) (p := 43) hc (m_X8_builds_ hK hR) dX8_followedOf_1 ml_X8_179 cf_X8_builds_ iv_X8_builds_ (k_43 hK) (C := RX8) (T := TX8) (N := 45) rfl rfl (Nat.lt_of_succ_le (Nat.le_of_ble_eq_true rfl)) rfl rfl (Nat.le_of_ble_eq_true rfl) ⟨Nat.le_of_ble_eq_true rfl, Nat.le_of_ble_eq_true rfl⟩ rfl (fun q_1 => ?_)
  refine w_aload_n (q := 5) (i := 0) (j := 0) hc dX8_followedOf_4 rfl rfl rfl ?_
  refine w_iconst (q := 6) hc dX8_followedOf_5 ci_0 rfl ?_
  refine w_aload_n (q := 7) (i := 1) (j := 1) hc dX8_followedOf_6 rfl rfl rfl ?_
  refine w_callV_Wi (q := 10) (st := []) (args := [.int 0, .ref a1]) (p := 43) hc (m_X8_sifts hK hR (kB hK (kA hK ha1))) dX8_followedOf_7 ml_X8_142 cf_X8_sifts iv_X8_sifts (k_43 hK) (C := RX8) (T := TX8) (N := 45) rfl rfl (Nat.lt_of_succ_le (Nat.le_of_ble_eq_true rfl)) rfl rfl (Nat.le_of_ble_eq_true rfl) ⟨Nat.le_of_ble_eq_true rfl, Nat.le_of_ble_eq_true rfl⟩ rfl (fun q_2 => ?_)
  refine w_istore_nB (q := 11) (i := 2) (lv' := fun v2_3 => [(2, .int v2_3), (0, .ref 43), (1, .ref a1)]) hc dX8_followedOf_10 rfl (hN 2 rfl) (fun _ => rfl) rfl (fun v2_3 => ?_)
  refine w_iload_n (q := 12) (i := 2) (j := 0) hc dX8_followedOf_11 rfl rfl rfl ?_
  refine w_aload_n (q := 13) (i := 0) (j := 1) hc dX8_followedOf_12 rfl rfl rfl ?_
  refine gf_X8_118 (q := 16) hc dX8_followedOf_13 (k_43 hK) rfl ?_
  refine w_icmpge (q := 19) (tgt := 23) hc dX8_followedOf_16 rfl rfl ?_ ?_
  · refine w_aload_n (q := 24) (i := 0) (j := 1) hc dX8_followedOf_23 rfl rfl rfl ?_
    refine gf_X8_118 (q := 27) hc dX8_followedOf_24 (k_43 hK) rfl ?_
    exact w_ireturn (v := (q_2.2.1 43 2)) hc hq dX8_followedOf_27 rfl rfl rfl
  · refine w_iload_n (q := 20) (i := 2) (j := 0) hc dX8_followedOf_19 rfl rfl rfl ?_
    refine w_goto (tgt := 27) hc dX8_followedOf_20 rfl ?_
    exact w_ireturn (v := v2_3) hc hq dX8_followedOf_27 rfl rfl rfl
set_option maxRecDepth 100000 in
set_option maxHeartbeats 4000000 in
theorem m_X8_followed {l : Launch} {K : KT} {R : MR} {rm : Nat} {a1 : Int64} {I : MI} {L : ML} (hK0 : K = lK rm) (hR0 : R = lR rm) : MFg l yX8_followed cX8_followed 3 (some .int) 9 206 [.ref 43, .long a1] K R I L anIW meW (f_X8_followed a1 I L) := by
  refine mf_of (plainFor_of_name (by decide)) (Nat.le_of_ble_eq_true rfl) ?_
  intro G hc _ hK1 hR1 hn hq
  have hK := hK1.trans hK0
  have hR := hR1.trans hR0
  have hN : ∀ i, Nat.blt i 3 = true → i < gnL G := fun i h => hn ▸ Nat.blt_eq.mp h
  unfold f_X8_followed
  show WW G 0 [(0, .ref 43), (1, .long a1)] [] I L _
  refine w_aload_n (q := 1) (i := 0) (j := 0) hc dX8_followed_0 rfl rfl rfl ?_
  refine w_aload_n (q := 2) (i := 0) (j := 0) hc dX8_followed_1 rfl rfl rfl ?_
  refine w_lload_n (q := 3) (i := 1) (j := 1) hc dX8_followed_2 rfl rfl rfl ?_
  refine w_aload_n (q := 4) (i := 0) (j := 0) hc dX8_followed_3 rfl rfl rfl ?_
  refine gf_X8_16 (q := 7) hc dX8_followed_4 (k_43 hK) (r_43_6 hR) rfl ?_
  refine w_callV_Wz (q := 10) (st := [.ref 43]) (args := [.long a1, .ref 46]) (p := 43) hc (m_X8_lies hK hR (kB hK (k_46 hK))) dX8_followed_7 ml_X8_217 cf_X8_lies iv_X8_lies (k_43 hK) (C := RX8) (T := TX8) (N := 45) rfl rfl (Nat.lt_of_succ_le (Nat.le_of_ble_eq_true rfl)) rfl rfl (Nat.le_of_ble_eq_true rfl) ⟨Nat.le_of_ble_eq_true rfl, Nat.le_of_ble_eq_true rfl⟩ rfl (fun q_1 => ?_)
  refine w_ifeq (q := 13) (tgt := 17) hc dX8_followed_10 rfl rfl ?_ ?_
  · refine w_iconst (q := 18) hc dX8_followed_17 ci_1 rfl ?_
    refine w_callV_Wz (q := 21) (st := []) (args := [.int 1]) (p := 43) hc (m_X8_is hK hR) dX8_followed_18 ml_X8_194 cf_X8_is iv_X8_is (k_43 hK) (C := RX8) (T := TX8) (N := 45) rfl rfl (Nat.lt_of_succ_le (Nat.le_of_ble_eq_true rfl)) rfl rfl (Nat.le_of_ble_eq_true rfl) ⟨Nat.le_of_ble_eq_true rfl, Nat.le_of_ble_eq_true rfl⟩ rfl (fun q_2 => ?_)
    refine w_ifeq (q := 24) (tgt := 35) hc dX8_followed_21 rfl rfl ?_ ?_
    · refine w_iconst (q := 36) hc dX8_followed_35 ci_m1 rfl ?_
      exact w_ireturn (v := (-1)) hc hq dX8_followed_36 rfl rfl rfl
    · refine w_aload_n (q := 25) (i := 0) (j := 0) hc dX8_followed_24 rfl rfl rfl ?_
      refine w_aload_n (q := 26) (i := 0) (j := 0) hc dX8_followed_25 rfl rfl rfl ?_
      refine gf_X8_16 (q := 29) hc dX8_followed_26 (k_43 hK) (r_43_6 hR) rfl ?_
      refine w_callV_Wi (q := 32) (st := []) (args := [.ref 46]) (p := 43) hc (m_X8_followedOf hK hR (kB hK (k_46 hK))) dX8_followed_29 ml_X8_278 cf_X8_followedOf iv_X8_followedOf (k_43 hK) (C := RX8) (T := TX8) (N := 45) rfl rfl (Nat.lt_of_succ_le (Nat.le_of_ble_eq_true rfl)) rfl rfl (Nat.le_of_ble_eq_true rfl) ⟨Nat.le_of_ble_eq_true rfl, Nat.le_of_ble_eq_true rfl⟩ rfl (fun q_3 => ?_)
      refine w_goto (tgt := 36) hc dX8_followed_32 rfl ?_
      exact w_ireturn (v := q_3.1) hc hq dX8_followed_36 rfl rfl rfl
  · refine w_iconst (q := 14) hc dX8_followed_13 ci_0 rfl ?_
    refine w_goto (tgt := 18) hc dX8_followed_14 rfl ?_
    refine w_callV_Wz (q := 21) (st := []) (args := [.int 0]) (p := 43) hc (m_X8_is hK hR) dX8_followed_18 ml_X8_194 cf_X8_is iv_X8_is (k_43 hK) (C := RX8) (T := TX8) (N := 45) rfl rfl (Nat.lt_of_succ_le (Nat.le_of_ble_eq_true rfl)) rfl rfl (Nat.le_of_ble_eq_true rfl) ⟨Nat.le_of_ble_eq_true rfl, Nat.le_of_ble_eq_true rfl⟩ rfl (fun q_4 => ?_)
    refine w_ifeq (q := 24) (tgt := 35) hc dX8_followed_21 rfl rfl ?_ ?_
    · refine w_iconst (q := 36) hc dX8_followed_35 ci_m1 rfl ?_
      exact w_ireturn (v := (-1)) hc hq dX8_followed_36 rfl rfl rfl
    · refine w_aload_n (q := 25) (i := 0) (j := 0) hc dX8_followed_24 rfl rfl rfl ?_
      refine w_aload_n (q := 26) (i := 0) (j := 0) hc dX8_followed_25 rfl rfl rfl ?_
      refine gf_X8_16 (q := 29) hc dX8_followed_26 (k_43 hK) (r_43_6 hR) rfl ?_
      refine w_callV_Wi (q := 32) (st := []) (args := [.ref 46]) (p := 43) hc (m_X8_followedOf hK hR (kB hK (k_46 hK))) dX8_followed_29 ml_X8_278 cf_X8_followedOf iv_X8_followedOf (k_43 hK) (C := RX8) (T := TX8) (N := 45) rfl rfl (Nat.lt_of_succ_le (Nat.le_of_ble_eq_true rfl)) rfl rfl (Nat.le_of_ble_eq_true rfl) ⟨Nat.le_of_ble_eq_true rfl, Nat.le_of_ble_eq_true rfl⟩ rfl (fun q_5 => ?_)
      refine w_goto (tgt := 36) hc dX8_followed_32 rfl ?_
      exact w_ireturn (v := q_5.1) hc hq dX8_followed_36 rfl rfl rfl
set_option maxRecDepth 100000 in
set_option maxHeartbeats 4000000 in
theorem m_X8_nth {l : Launch} {K : KT} {R : MR} {rm : Nat} {a1 : Int32} {I : MI} {L : ML} (hK0 : K = lK rm) (hR0 : R = lR rm) : MFg l yX8_nth cX8_nth 2 (some .long) 9 204 [.ref 43, .int a1] K R I L anLW meW (f_X8_nth a1 I L) := by
  refine mf_of (plainFor_of_name (by decide)) (Nat.le_of_ble_eq_true rfl) ?_
  intro G hc _ hK1 hR1 hn hq
  have hK := hK1.trans hK0
  have hR := hR1.trans hR0
  have hN : ∀ i, Nat.blt i 2 = true → i < gnL G := fun i h => hn ▸ Nat.blt_eq.mp h
  unfold f_X8_nth
  show WW G 0 [(0, .ref 43), (1, .int a1)] [] I L _
  refine w_aload_n (q := 1) (i := 0) (j := 0) hc dX8_nth_0 rfl rfl rfl ?_
  refine w_aload_n (q := 2) (i := 0) (j := 0) hc dX8_nth_1 rfl rfl rfl ?_
  refine w_iload_n (q := 3) (i := 1) (j := 1) hc dX8_nth_2 rfl rfl rfl ?_
  refine w_join (fun j11_239 : Bool → Option (Int64 × Mm) => ∀ (s0_1 : Bool), WW G 11 [(0, .ref 43), (1, .int a1)] [.int (b2i s0_1), .ref 43, .ref 43] I L (j11_239 s0_1)) ?_ ?_
  · intro s0_1
    refine w_callV_Ri (q := 14) (st := [.ref 43]) (args := [.int (b2i s0_1)]) (p := 43) hc (m_X8_whyHere hK hR) dX8_nth_11 ml_X8_260 cf_X8_whyHere iv_X8_whyHere (k_43 hK) (C := RX8) (T := TX8) (N := 45) rfl rfl (Nat.lt_of_succ_le (Nat.le_of_ble_eq_true rfl)) rfl rfl (Nat.le_of_ble_eq_true rfl) ⟨Nat.le_of_ble_eq_true rfl, Nat.le_of_ble_eq_true rfl⟩ rfl (fun q_2 => ?_)
    refine w_callV_Wz (q := 17) (st := []) (args := [.int q_2]) (p := 43) hc (m_X8_is hK hR) dX8_nth_14 ml_X8_194 cf_X8_is iv_X8_is (k_43 hK) (C := RX8) (T := TX8) (N := 45) rfl rfl (Nat.lt_of_succ_le (Nat.le_of_ble_eq_true rfl)) rfl rfl (Nat.le_of_ble_eq_true rfl) ⟨Nat.le_of_ble_eq_true rfl, Nat.le_of_ble_eq_true rfl⟩ rfl (fun q_3 => ?_)
    refine w_ifne (q := 20) (tgt := 24) hc dX8_nth_17 rfl rfl ?_ ?_
    · refine w_ldc2 (q := 23) hc dX8_nth_20 kl_X8_208 rfl ?_
      exact w_lreturn hc hq dX8_nth_23 rfl rfl
    · refine w_iload_n (q := 25) (i := 1) (j := 1) hc dX8_nth_24 rfl rfl rfl ?_
      refine w_aload_n (q := 26) (i := 0) (j := 0) hc dX8_nth_25 rfl rfl rfl ?_
      refine w_callV_Wi (q := 29) (st := [.int a1]) (args := []) (p := 43) hc (m_X8_orderNow hK hR) dX8_nth_26 ml_X8_185 cf_X8_orderNow iv_X8_orderNow (k_43 hK) (C := RX8) (T := TX8) (N := 45) rfl rfl (Nat.lt_of_succ_le (Nat.le_of_ble_eq_true rfl)) rfl rfl (Nat.le_of_ble_eq_true rfl) ⟨Nat.le_of_ble_eq_true rfl, Nat.le_of_ble_eq_true rfl⟩ rfl (fun q_4 => ?_)
      refine w_icmplt (q := 32) (tgt := 39) hc dX8_nth_29 rfl rfl ?_ ?_
      · refine w_aload_n (q := 40) (i := 0) (j := 0) hc dX8_nth_39 rfl rfl rfl ?_
        refine w_iload_n (q := 41) (i := 1) (j := 1) hc dX8_nth_40 rfl rfl rfl ?_
        refine w_aload_n (q := 42) (i := 0) (j := 0) hc dX8_nth_41 rfl rfl rfl ?_
        refine gf_X8_16 (q := 45) hc dX8_nth_42 (k_43 hK) (r_43_6 hR) rfl ?_
        refine w_callV_Wv (q := 48) (st := []) (args := [.int a1, .ref 46]) (p := 43) hc (m_X8_laysNth hK hR (kB hK (k_46 hK))) dX8_nth_45 ml_X8_281 cf_X8_laysNth iv_X8_laysNth (k_43 hK) (C := RX8) (T := TX8) (N := 45) rfl rfl (Nat.lt_of_succ_le (Nat.le_of_ble_eq_true rfl)) rfl rfl (Nat.le_of_ble_eq_true rfl) ⟨Nat.le_of_ble_eq_true rfl, Nat.le_of_ble_eq_true rfl⟩ rfl (fun q_5 => ?_)
        refine w_aload_n (q := 49) (i := 0) (j := 0) hc dX8_nth_48 rfl rfl rfl ?_
        refine w_aload_n (q := 50) (i := 0) (j := 0) hc dX8_nth_49 rfl rfl rfl ?_
        refine gf_X8_16 (q := 53) hc dX8_nth_50 (k_43 hK) (r_43_6 hR) rfl ?_
        refine w_callV_Rl (q := 56) (st := []) (args := [.ref 46]) (p := 43) hc (m_X8_told hK hR (kB hK (k_46 hK))) dX8_nth_53 ml_X8_213 cf_X8_told iv_X8_told (k_43 hK) (C := RX8) (T := TX8) (N := 45) rfl rfl (Nat.lt_of_succ_le (Nat.le_of_ble_eq_true rfl)) rfl rfl (Nat.le_of_ble_eq_true rfl) ⟨Nat.le_of_ble_eq_true rfl, Nat.le_of_ble_eq_true rfl⟩ rfl (fun q_6 => ?_)
        exact w_lreturn hc hq dX8_nth_56 rfl rfl
      · refine w_aload_n (q := 33) (i := 0) (j := 0) hc dX8_nth_32 rfl rfl rfl ?_
        refine w_iconst (q := 34) hc dX8_nth_33 ci_5 rfl ?_
        refine w_callV_Wi (q := 37) (st := []) (args := [.int 5]) (p := 43) hc (m_X8_refuse hK hR) dX8_nth_34 ml_X8_266 cf_X8_refuse iv_X8_refuse (k_43 hK) (C := RX8) (T := TX8) (N := 45) rfl rfl (Nat.lt_of_succ_le (Nat.le_of_ble_eq_true rfl)) rfl rfl (Nat.le_of_ble_eq_true rfl) ⟨Nat.le_of_ble_eq_true rfl, Nat.le_of_ble_eq_true rfl⟩ rfl (fun q_7 => ?_)
        refine w_i2l (q := 38) hc dX8_nth_37  rfl ?_
        exact w_lreturn hc hq dX8_nth_38 rfl rfl
  · intro j11_239 hj11_239
    refine w_iflt (q := 6) (tgt := 10) hc dX8_nth_3 rfl rfl ?_ ?_
    · refine w_iconst (q := 11) hc dX8_nth_10 ci_1 rfl ?_
      exact hj11_239 true
    · refine w_iconst (q := 7) hc dX8_nth_6 ci_0 rfl ?_
      refine w_goto (tgt := 11) hc dX8_nth_7 rfl ?_
      exact hj11_239 false
set_option maxRecDepth 100000 in
set_option maxHeartbeats 4000000 in
theorem m_X8_placed {l : Launch} {K : KT} {R : MR} {rm : Nat} {a1 : Nat} {I : MI} {L : ML} (hK0 : K = lK rm) (hR0 : R = lR rm) (ha1 : (lK rm)[a1]? = some (10, 10)) : MFg l yX8_placed cX8_placed 2 (some .int) 8 184 [.ref 43, .ref a1] K R I L anIW meW (f_X8_placed a1 I L) := by
  refine mf_of (plainFor_of_name (by decide)) (Nat.le_of_ble_eq_true rfl) ?_
  intro G hc _ hK1 hR1 hn hq
  have hK := hK1.trans hK0
  have hR := hR1.trans hR0
  have hN : ∀ i, Nat.blt i 2 = true → i < gnL G := fun i h => hn ▸ Nat.blt_eq.mp h
  unfold f_X8_placed
  show WW G 0 [(0, .ref 43), (1, .ref a1)] [] I L _
  refine w_aload_n (q := 1) (i := 0) (j := 0) hc dX8_placed_0 rfl rfl rfl ?_
  refine w_callV_Wv (q := 4) (st := []) (args := []) (p := 43) hc (m_X8_builds_ hK hR) dX8_placed_1 ml_X8_179 cf_X8_builds_ iv_X8_builds_ (k_43 hK) (C := RX8) (T := TX8) (N := 45) rfl rfl (Nat.lt_of_succ_le (Nat.le_of_ble_eq_true rfl)) rfl rfl (Nat.le_of_ble_eq_true rfl) ⟨Nat.le_of_ble_eq_true rfl, Nat.le_of_ble_eq_true rfl⟩ rfl (fun q_1 => ?_)
  refine w_aload_n (q := 5) (i := 0) (j := 0) hc dX8_placed_4 rfl rfl rfl ?_
  refine w_aload_n (q := 6) (i := 1) (j := 1) hc dX8_placed_5 rfl rfl rfl ?_
  refine w_callV_Wi (q := 9) (st := []) (args := [.ref a1]) (p := 43) hc (m_X8_placeOf hK hR (kB hK (kA hK ha1))) dX8_placed_6 ml_X8_284 cf_X8_placeOf iv_X8_placeOf (k_43 hK) (C := RX8) (T := TX8) (N := 45) rfl rfl (Nat.lt_of_succ_le (Nat.le_of_ble_eq_true rfl)) rfl rfl (Nat.le_of_ble_eq_true rfl) ⟨Nat.le_of_ble_eq_true rfl, Nat.le_of_ble_eq_true rfl⟩ rfl (fun q_2 => ?_)
  exact w_ireturn (v := q_2.1) hc hq dX8_placed_9 rfl rfl rfl
set_option maxRecDepth 100000 in
set_option maxHeartbeats 4000000 in
theorem m_X8_rank {l : Launch} {K : KT} {R : MR} {rm : Nat} {a1 : Int64} {I : MI} {L : ML} (hK0 : K = lK rm) (hR0 : R = lR rm) : MFg l yX8_rank cX8_rank 4 (some .int) 9 205 [.ref 43, .long a1] K R I L anIW meW (f_X8_rank a1 I L) := by
  refine mf_of (plainFor_of_name (by decide)) (Nat.le_of_ble_eq_true rfl) ?_
  intro G hc _ hK1 hR1 hn hq
  have hK := hK1.trans hK0
  have hR := hR1.trans hR0
  have hN : ∀ i, Nat.blt i 4 = true → i < gnL G := fun i h => hn ▸ Nat.blt_eq.mp h
  unfold f_X8_rank
  show WW G 0 [(0, .ref 43), (1, .long a1)] [] I L _
  refine w_aload_n (q := 1) (i := 0) (j := 0) hc dX8_rank_0 rfl rfl rfl ?_
  refine w_aload_n (q := 2) (i := 0) (j := 0) hc dX8_rank_1 rfl rfl rfl ?_
  refine w_lload_n (q := 3) (i := 1) (j := 1) hc dX8_rank_2 rfl rfl rfl ?_
  refine w_aload_n (q := 4) (i := 0) (j := 0) hc dX8_rank_3 rfl rfl rfl ?_
  refine gf_X8_16 (q := 7) hc dX8_rank_4 (k_43 hK) (r_43_6 hR) rfl ?_
  refine w_callV_Wz (q := 10) (st := [.ref 43]) (args := [.long a1, .ref 46]) (p := 43) hc (m_X8_lies hK hR (kB hK (k_46 hK))) dX8_rank_7 ml_X8_217 cf_X8_lies iv_X8_lies (k_43 hK) (C := RX8) (T := TX8) (N := 45) rfl rfl (Nat.lt_of_succ_le (Nat.le_of_ble_eq_true rfl)) rfl rfl (Nat.le_of_ble_eq_true rfl) ⟨Nat.le_of_ble_eq_true rfl, Nat.le_of_ble_eq_true rfl⟩ rfl (fun q_1 => ?_)
  refine w_join (fun j18_240 : Bool → Option (Int32 × Mm) => ∀ (s0_2 : Bool), WW G 18 [(0, .ref 43)] [.int (b2i s0_2), .ref 43] q_1.2.1 q_1.2.2 (j18_240 s0_2)) ?_ ?_
  · intro s0_2
    refine w_callV_Wz (q := 21) (st := []) (args := [.int (b2i s0_2)]) (p := 43) hc (m_X8_is hK hR) dX8_rank_18 ml_X8_194 cf_X8_is iv_X8_is (k_43 hK) (C := RX8) (T := TX8) (N := 45) rfl rfl (Nat.lt_of_succ_le (Nat.le_of_ble_eq_true rfl)) rfl rfl (Nat.le_of_ble_eq_true rfl) ⟨Nat.le_of_ble_eq_true rfl, Nat.le_of_ble_eq_true rfl⟩ rfl (fun q_3 => ?_)
    refine w_ifne (q := 24) (tgt := 26) hc dX8_rank_21 rfl rfl ?_ ?_
    · refine w_iconst (q := 25) hc dX8_rank_24 ci_m1 rfl ?_
      exact w_ireturn (v := (-1)) hc hq dX8_rank_25 rfl rfl rfl
    · refine w_aload_n (q := 27) (i := 0) (j := 0) hc dX8_rank_26 rfl rfl rfl ?_
      refine w_aload_n (q := 28) (i := 0) (j := 0) hc dX8_rank_27 rfl rfl rfl ?_
      refine gf_X8_16 (q := 31) hc dX8_rank_28 (k_43 hK) (r_43_6 hR) rfl ?_
      refine w_callV_Wi (q := 34) (st := []) (args := [.ref 46]) (p := 43) hc (m_X8_placed hK hR (kB hK (k_46 hK))) dX8_rank_31 ml_X8_287 cf_X8_placed iv_X8_placed (k_43 hK) (C := RX8) (T := TX8) (N := 45) rfl rfl (Nat.lt_of_succ_le (Nat.le_of_ble_eq_true rfl)) rfl rfl (Nat.le_of_ble_eq_true rfl) ⟨Nat.le_of_ble_eq_true rfl, Nat.le_of_ble_eq_true rfl⟩ rfl (fun q_4 => ?_)
      refine w_istore_nB (q := 35) (i := 3) (lv' := fun v3_5 => [(3, .int v3_5), (0, .ref 43)]) hc dX8_rank_34 rfl (hN 3 rfl) (fun _ => rfl) rfl (fun v3_5 => ?_)
      refine w_iload_n (q := 36) (i := 3) (j := 0) hc dX8_rank_35 rfl rfl rfl ?_
      refine w_iconst (q := 37) hc dX8_rank_36 ci_m1 rfl ?_
      refine w_icmpne (q := 40) (tgt := 49) hc dX8_rank_37 rfl rfl ?_ ?_
      · refine w_aload_n (q := 41) (i := 0) (j := 1) hc dX8_rank_40 rfl rfl rfl ?_
        refine w_bipush (q := 43) hc dX8_rank_41 cb_6 rfl ?_
        refine w_callV_Wi (q := 46) (st := []) (args := [.int 6]) (p := 43) hc (m_X8_refuse hK hR) dX8_rank_43 ml_X8_266 cf_X8_refuse iv_X8_refuse (k_43 hK) (C := RX8) (T := TX8) (N := 45) rfl rfl (Nat.lt_of_succ_le (Nat.le_of_ble_eq_true rfl)) rfl rfl (Nat.le_of_ble_eq_true rfl) ⟨Nat.le_of_ble_eq_true rfl, Nat.le_of_ble_eq_true rfl⟩ rfl (fun q_6 => ?_)
        refine w_goto (tgt := 50) hc dX8_rank_46 rfl ?_
        exact w_ireturn (v := q_6.1) hc hq dX8_rank_50 rfl rfl rfl
      · refine w_iload_n (q := 50) (i := 3) (j := 0) hc dX8_rank_49 rfl rfl rfl ?_
        exact w_ireturn (v := v3_5) hc hq dX8_rank_50 rfl rfl rfl
  · intro j18_240 hj18_240
    refine w_ifeq (q := 13) (tgt := 17) hc dX8_rank_10 rfl rfl ?_ ?_
    · refine w_iconst (q := 18) hc dX8_rank_17 ci_1 rfl ?_
      refine w_sub [0] rfl ?_
      exact hj18_240 true
    · refine w_iconst (q := 14) hc dX8_rank_13 ci_0 rfl ?_
      refine w_goto (tgt := 18) hc dX8_rank_14 rfl ?_
      refine w_sub [0] rfl ?_
      exact hj18_240 false
set_option maxRecDepth 100000 in
set_option maxHeartbeats 4000000 in
theorem wl_X8_laysAll_10 {G : GT Mm} {rm : Nat} (hc : Cx G cX8_laysAll yX8_laysAll.cls none 9 204) (hq : RetQ G anV meV) (hK : gK G = lK rm) (hR : gR G = lR rm) (hn : gnL G = 2) : ∀ (n : Nat) (v1_3 : Int32) (I_4 : MI) (L_5 : ML), WW G 10 [(0, .ref 43), (1, .int v1_3)] [] I_4 L_5 (f_X8_laysAll_10 n v1_3 I_4 L_5) := by
  have hN : ∀ i, Nat.blt i 2 = true → i < gnL G := fun i h => hn ▸ Nat.blt_eq.mp h
  intro n
  induction n with
  | zero => intros; exact w_none _ _ _
  | succ n ih =>
    intros v1_3 I_4 L_5
    rw [f_X8_laysAll_10]
    refine w_iload_n (q := 11) (i := 1) (j := 1) hc dX8_laysAll_10 rfl rfl rfl ?_
    refine w_aload_n (q := 12) (i := 0) (j := 0) hc dX8_laysAll_11 rfl rfl rfl ?_
    refine gf_X8_290 (q := 15) hc dX8_laysAll_12 (k_43 hK) rfl ?_
    refine w_icmpge (q := 18) (tgt := 49) hc dX8_laysAll_15 rfl rfl ?_ ?_
    · exact w_return hc hq dX8_laysAll_49 rfl rfl
    · refine w_aload_n (q := 19) (i := 0) (j := 0) hc dX8_laysAll_18 rfl rfl rfl ?_
      refine w_iload_n (q := 20) (i := 1) (j := 1) hc dX8_laysAll_19 rfl rfl rfl ?_
      refine w_aload_n (q := 21) (i := 0) (j := 0) hc dX8_laysAll_20 rfl rfl rfl ?_
      refine gf_X8_22 (q := 24) hc dX8_laysAll_21 (k_43 hK) (r_43_8 hR) rfl ?_
      refine w_callV_Wv (q := 27) (st := []) (args := [.int v1_3, .ref 48]) (p := 43) hc (m_X8_laysNth hK hR (kB hK (k_48 hK))) dX8_laysAll_24 ml_X8_281 cf_X8_laysNth iv_X8_laysNth (k_43 hK) (C := RX8) (T := TX8) (N := 45) rfl rfl (Nat.lt_of_succ_le (Nat.le_of_ble_eq_true rfl)) rfl rfl (Nat.le_of_ble_eq_true rfl) ⟨Nat.le_of_ble_eq_true rfl, Nat.le_of_ble_eq_true rfl⟩ rfl (fun q_6 => ?_)
      refine w_aload_n (q := 28) (i := 0) (j := 0) hc dX8_laysAll_27 rfl rfl rfl ?_
      refine gf_X8_22 (q := 31) hc dX8_laysAll_28 (k_43 hK) (r_43_8 hR) rfl ?_
      refine w_iconst (q := 32) hc dX8_laysAll_31 ci_0 rfl ?_
      refine w_aload_n (q := 33) (i := 0) (j := 0) hc dX8_laysAll_32 rfl rfl rfl ?_
      refine gf_X8_60 (q := 36) hc dX8_laysAll_33 (k_43 hK) (r_43_21 hR) rfl ?_
      refine w_bipush (q := 38) hc dX8_laysAll_36 cb_10 rfl ?_
      refine w_iload_n (q := 39) (i := 1) (j := 1) hc dX8_laysAll_38 rfl rfl rfl ?_
      refine w_imul (q := 40) hc dX8_laysAll_39  rfl ?_
      refine w_callS_Wv (q := 43) (st := []) (args := [.ref 48, .int 0, .ref 60, .int (10 * v1_3)]) hc (m_X8_copies hK hR (kB hK (k_48 hK)) (kB hK (k_60 hK))) dX8_laysAll_40 ml_X8_100 cf_X8_copies st_X8_copies rfl rfl (Nat.le_of_ble_eq_true rfl) ⟨Nat.le_of_ble_eq_true rfl, Nat.le_of_ble_eq_true rfl⟩ rfl (fun q_7 => ?_)
      refine w_iincB (q := 46) (i := 1) (j := 1) (lv' := fun v1_8 => [(1, .int v1_8), (0, .ref 43)]) hc dX8_laysAll_43 rfl ci_1 (hN 1 rfl) (fun _ => rfl) rfl (fun v1_8 => ?_)
      refine w_goto (tgt := 10) hc dX8_laysAll_46 rfl ?_
      refine w_sub [1, 0] rfl ?_
      exact ih v1_8 q_7.1 q_7.2
set_option maxRecDepth 100000 in
set_option maxHeartbeats 4000000 in
theorem m_X8_laysAll {l : Launch} {K : KT} {R : MR} {rm : Nat} {I : MI} {L : ML} (hK0 : K = lK rm) (hR0 : R = lR rm) : MFg l yX8_laysAll cX8_laysAll 2 none 9 204 [.ref 43] K R I L anV meV (f_X8_laysAll I L) := by
  refine mf_of (plainFor_of_name (by decide)) (Nat.le_of_ble_eq_true rfl) ?_
  intro G hc _ hK1 hR1 hn hq
  have hK := hK1.trans hK0
  have hR := hR1.trans hR0
  have hN : ∀ i, Nat.blt i 2 = true → i < gnL G := fun i h => hn ▸ Nat.blt_eq.mp h
  unfold f_X8_laysAll
  show WW G 0 [(0, .ref 43)] [] I L _
  refine w_aload_n (q := 1) (i := 0) (j := 0) hc dX8_laysAll_0 rfl rfl rfl ?_
  refine w_aload_n (q := 2) (i := 0) (j := 0) hc dX8_laysAll_1 rfl rfl rfl ?_
  refine w_callV_Wi (q := 5) (st := [.ref 43]) (args := []) (p := 43) hc (m_X8_orderNow hK hR) dX8_laysAll_2 ml_X8_185 cf_X8_orderNow iv_X8_orderNow (k_43 hK) (C := RX8) (T := TX8) (N := 45) rfl rfl (Nat.lt_of_succ_le (Nat.le_of_ble_eq_true rfl)) rfl rfl (Nat.le_of_ble_eq_true rfl) ⟨Nat.le_of_ble_eq_true rfl, Nat.le_of_ble_eq_true rfl⟩ rfl (fun q_1 => ?_)
  refine pf_X8_290 (q := 8) hc dX8_laysAll_5 (k_43 hK) rfl (fun I_2 => ?_)
  refine w_iconst (q := 9) hc dX8_laysAll_8 ci_0 rfl ?_
  refine w_istore_n (q := 10) (i := 1) (lv' := [(1, .int 0), (0, .ref 43)]) hc dX8_laysAll_9 rfl (hN 1 rfl) rfl rfl ?_
  refine w_sub [1, 0] rfl ?_
  exact wl_X8_laysAll_10 hc hq hK hR hn FU 0 I_2 q_1.2.2
set_option maxRecDepth 100000 in
set_option maxHeartbeats 4000000 in
theorem m_X8_laysOne {l : Launch} {K : KT} {R : MR} {rm : Nat} {a1 : Int32} {a2 : Nat} {I : MI} {L : ML} (hK0 : K = lK rm) (hR0 : R = lR rm) (ha2 : (lK rm)[a2]? = some (10, 10)) : MFg l yX8_laysOne cX8_laysOne 3 none 1 24 [.ref 43, .int a1, .ref a2] K R I L anV meV (f_X8_laysOne a1 a2 I L) := by
  refine mf_of (plainFor_of_name (by decide)) (Nat.le_of_ble_eq_true rfl) ?_
  intro G hc _ hK1 hR1 hn hq
  have hK := hK1.trans hK0
  have hR := hR1.trans hR0
  have hN : ∀ i, Nat.blt i 3 = true → i < gnL G := fun i h => hn ▸ Nat.blt_eq.mp h
  unfold f_X8_laysOne
  show WW G 0 [(0, .ref 43), (1, .int a1), (2, .ref a2)] [] I L _
  refine w_aload_n (q := 1) (i := 0) (j := 0) hc dX8_laysOne_0 rfl rfl rfl ?_
  refine gf_X8_60 (q := 4) hc dX8_laysOne_1 (k_43 hK) (r_43_21 hR) rfl ?_
  refine w_bipush (q := 6) hc dX8_laysOne_4 cb_10 rfl ?_
  refine w_iload_n (q := 7) (i := 1) (j := 1) hc dX8_laysOne_6 rfl rfl rfl ?_
  refine w_imul (q := 8) hc dX8_laysOne_7  rfl ?_
  refine w_aload_n (q := 9) (i := 2) (j := 2) hc dX8_laysOne_8 rfl rfl rfl ?_
  refine w_iconst (q := 10) hc dX8_laysOne_9 ci_0 rfl ?_
  refine w_callS_Wv (q := 13) (st := []) (args := [.ref 60, .int (10 * a1), .ref a2, .int 0]) hc (m_X8_copies hK hR (kB hK (k_60 hK)) (kB hK (kA hK ha2))) dX8_laysOne_10 ml_X8_100 cf_X8_copies st_X8_copies rfl rfl (Nat.le_of_ble_eq_true rfl) ⟨Nat.le_of_ble_eq_true rfl, Nat.le_of_ble_eq_true rfl⟩ rfl (fun q_1 => ?_)
  exact w_return hc hq dX8_laysOne_13 rfl rfl
set_option maxRecDepth 100000 in
set_option maxHeartbeats 4000000 in
theorem wl_X8_laysDepths_52 {G : GT Mm} {rm : Nat} (v2_14 : Int32) (hc : Cx G cX8_laysDepths yX8_laysDepths.cls none 10 225) (hq : RetQ G anV meV) (hK : gK G = lK rm) (hR : gR G = lR rm) (hn : gnL G = 5) (k0 : Int32 → MI → ML → Option Mm) (hk0 : ∀ (v1_29 : Int32) (I_30 : MI) (L_31 : ML), WW G 161 [(0, .ref 43), (1, .int v1_29), (2, .int v2_14)] [] I_30 L_31 (k0 v1_29 I_30 L_31)) : ∀ (n : Nat) (v1_13 : Int32) (v3_15 : Int32) (I_16 : MI) (L_17 : ML), WW G 52 [(0, .ref 43), (1, .int v1_13), (2, .int v2_14), (3, .int v3_15)] [] I_16 L_17 (f_X8_laysDepths_52 v2_14 k0 n v1_13 v3_15 I_16 L_17) := by
  have hN : ∀ i, Nat.blt i 5 = true → i < gnL G := fun i h => hn ▸ Nat.blt_eq.mp h
  intro n
  induction n with
  | zero => intros; exact w_none _ _ _
  | succ n ih =>
    intros v1_13 v3_15 I_16 L_17
    rw [f_X8_laysDepths_52]
    refine w_iload_n (q := 53) (i := 3) (j := 3) hc dX8_laysDepths_52 rfl rfl rfl ?_
    refine w_iconst (q := 54) hc dX8_laysDepths_53 ci_2 rfl ?_
    refine w_aload_n (q := 55) (i := 0) (j := 0) hc dX8_laysDepths_54 rfl rfl rfl ?_
    refine w_callV_Ri (q := 58) (st := [.int 2, .int v3_15]) (args := []) (p := 43) hc (m_X8_moves hK hR) dX8_laysDepths_55 ml_X8_110 cf_X8_moves iv_X8_moves (k_43 hK) (C := RX8) (T := TX8) (N := 45) rfl rfl (Nat.lt_of_succ_le (Nat.le_of_ble_eq_true rfl)) rfl rfl (Nat.le_of_ble_eq_true rfl) ⟨Nat.le_of_ble_eq_true rfl, Nat.le_of_ble_eq_true rfl⟩ rfl (fun q_18 => ?_)
    refine w_imul (q := 59) hc dX8_laysDepths_58  rfl ?_
    refine w_icmpge (q := 62) (tgt := 161) hc dX8_laysDepths_59 rfl rfl ?_ ?_
    · refine w_sub [0, 1, 2] rfl ?_
      exact hk0 v1_13 I_16 L_17
    · refine w_aload_n (q := 63) (i := 0) (j := 0) hc dX8_laysDepths_62 rfl rfl rfl ?_
      refine w_aload_n (q := 64) (i := 0) (j := 0) hc dX8_laysDepths_63 rfl rfl rfl ?_
      refine gf_X8_66 (q := 67) hc dX8_laysDepths_64 (k_43 hK) (r_43_23 hR) rfl ?_
      refine w_iload_n (q := 68) (i := 2) (j := 2) hc dX8_laysDepths_67 rfl rfl rfl ?_
      refine w_iald (q := 69) hc dX8_laysDepths_68 (k_62 hK) rfl ?_
      refine w_aload_n (q := 70) (i := 0) (j := 0) hc dX8_laysDepths_69 rfl rfl rfl ?_
      refine gf_X8_25 (q := 73) hc dX8_laysDepths_70 (k_43 hK) (r_43_9 hR) rfl ?_
      refine w_callV_Wv (q := 76) (st := []) (args := [.int (I_16 62 (ix v2_14)), .ref 49]) (p := 43) hc (m_X8_laysOne hK hR (kB hK (k_49 hK))) dX8_laysDepths_73 ml_X8_296 cf_X8_laysOne iv_X8_laysOne (k_43 hK) (C := RX8) (T := TX8) (N := 45) rfl rfl (Nat.lt_of_succ_le (Nat.le_of_ble_eq_true rfl)) rfl rfl (Nat.le_of_ble_eq_true rfl) ⟨Nat.le_of_ble_eq_true rfl, Nat.le_of_ble_eq_true rfl⟩ rfl (fun q_19 => ?_)
      refine w_aload_n (q := 77) (i := 0) (j := 0) hc dX8_laysDepths_76 rfl rfl rfl ?_
      refine w_iload_n (q := 78) (i := 3) (j := 3) hc dX8_laysDepths_77 rfl rfl rfl ?_
      refine w_aload_n (q := 79) (i := 0) (j := 0) hc dX8_laysDepths_78 rfl rfl rfl ?_
      refine gf_X8_28 (q := 82) hc dX8_laysDepths_79 (k_43 hK) (r_43_10 hR) rfl ?_
      refine w_callV_Wv (q := 85) (st := []) (args := [.int v3_15, .ref 50]) (p := 43) hc (m_X8_laysStep hK hR (kB hK (k_50 hK))) dX8_laysDepths_82 ml_X8_210 cf_X8_laysStep iv_X8_laysStep (k_43 hK) (C := RX8) (T := TX8) (N := 45) rfl rfl (Nat.lt_of_succ_le (Nat.le_of_ble_eq_true rfl)) rfl rfl (Nat.le_of_ble_eq_true rfl) ⟨Nat.le_of_ble_eq_true rfl, Nat.le_of_ble_eq_true rfl⟩ rfl (fun q_20 => ?_)
      refine w_aload_n (q := 86) (i := 0) (j := 0) hc dX8_laysDepths_85 rfl rfl rfl ?_
      refine gf_X8_25 (q := 89) hc dX8_laysDepths_86 (k_43 hK) (r_43_9 hR) rfl ?_
      refine w_aload_n (q := 90) (i := 0) (j := 0) hc dX8_laysDepths_89 rfl rfl rfl ?_
      refine gf_X8_28 (q := 93) hc dX8_laysDepths_90 (k_43 hK) (r_43_10 hR) rfl ?_
      refine w_aload_n (q := 94) (i := 0) (j := 0) hc dX8_laysDepths_93 rfl rfl rfl ?_
      refine gf_X8_22 (q := 97) hc dX8_laysDepths_94 (k_43 hK) (r_43_8 hR) rfl ?_
      refine w_callS_Wv (q := 100) (st := []) (args := [.ref 49, .ref 50, .ref 48]) hc (m_X8_makes hK hR (kB hK (k_49 hK)) (kB hK (k_50 hK)) (kB hK (k_48 hK))) dX8_laysDepths_97 ml_X8_138 cf_X8_makes st_X8_makes rfl rfl (Nat.le_of_ble_eq_true rfl) ⟨Nat.le_of_ble_eq_true rfl, Nat.le_of_ble_eq_true rfl⟩ rfl (fun q_21 => ?_)
      refine w_aload_n (q := 101) (i := 0) (j := 0) hc dX8_laysDepths_100 rfl rfl rfl ?_
      refine w_aload_n (q := 102) (i := 0) (j := 0) hc dX8_laysDepths_101 rfl rfl rfl ?_
      refine gf_X8_22 (q := 105) hc dX8_laysDepths_102 (k_43 hK) (r_43_8 hR) rfl ?_
      refine w_callV_Wi (q := 108) (st := []) (args := [.ref 48]) (p := 43) hc (m_X8_placeOf hK hR (kB hK (k_48 hK))) dX8_laysDepths_105 ml_X8_284 cf_X8_placeOf iv_X8_placeOf (k_43 hK) (C := RX8) (T := TX8) (N := 45) rfl rfl (Nat.lt_of_succ_le (Nat.le_of_ble_eq_true rfl)) rfl rfl (Nat.le_of_ble_eq_true rfl) ⟨Nat.le_of_ble_eq_true rfl, Nat.le_of_ble_eq_true rfl⟩ rfl (fun q_22 => ?_)
      refine w_istoreB (q := 110) (i := 4) (lv' := fun v4_23 => [(4, .int v4_23), (0, .ref 43), (1, .int v1_13), (2, .int v2_14), (3, .int v3_15)]) hc dX8_laysDepths_108 (hN 4 rfl) (fun _ => rfl) rfl (fun v4_23 => ?_)
      refine w_aload_n (q := 111) (i := 0) (j := 1) hc dX8_laysDepths_110 rfl rfl rfl ?_
      refine gf_X8_63 (q := 114) hc dX8_laysDepths_111 (k_43 hK) (r_43_22 hR) rfl ?_
      refine w_iload (q := 116) (i := 4) (j := 0) hc dX8_laysDepths_114 rfl rfl ?_
      refine w_iald (q := 117) hc dX8_laysDepths_116 (k_61 hK) rfl ?_
      refine w_iconst (q := 118) hc dX8_laysDepths_117 ci_m1 rfl ?_
      refine w_icmpeq (q := 121) (tgt := 124) hc dX8_laysDepths_118 rfl rfl ?_ ?_
      · refine w_aload_n (q := 125) (i := 0) (j := 1) hc dX8_laysDepths_124 rfl rfl rfl ?_
        refine gf_X8_63 (q := 128) hc dX8_laysDepths_125 (k_43 hK) (r_43_22 hR) rfl ?_
        refine w_iload (q := 130) (i := 4) (j := 0) hc dX8_laysDepths_128 rfl rfl ?_
        refine w_aload_n (q := 131) (i := 0) (j := 1) hc dX8_laysDepths_130 rfl rfl rfl ?_
        refine gf_X8_63 (q := 134) hc dX8_laysDepths_131 (k_43 hK) (r_43_22 hR) rfl ?_
        refine w_aload_n (q := 135) (i := 0) (j := 1) hc dX8_laysDepths_134 rfl rfl rfl ?_
        refine gf_X8_66 (q := 138) hc dX8_laysDepths_135 (k_43 hK) (r_43_23 hR) rfl ?_
        refine w_iload_n (q := 139) (i := 2) (j := 3) hc dX8_laysDepths_138 rfl rfl rfl ?_
        refine w_iald (q := 140) hc dX8_laysDepths_139 (k_62 hK) rfl ?_
        refine w_iald (q := 141) hc dX8_laysDepths_140 (k_61 hK) rfl ?_
        refine w_iconst (q := 142) hc dX8_laysDepths_141 ci_1 rfl ?_
        refine w_iadd (q := 143) hc dX8_laysDepths_142  rfl ?_
        refine w_iast (q := 144) hc dX8_laysDepths_143 (k_61 hK) rfl (fun I_24 => ?_)
        refine w_aload_n (q := 145) (i := 0) (j := 1) hc dX8_laysDepths_144 rfl rfl rfl ?_
        refine gf_X8_66 (q := 148) hc dX8_laysDepths_145 (k_43 hK) (r_43_23 hR) rfl ?_
        refine w_iload_n (q := 149) (i := 1) (j := 2) hc dX8_laysDepths_148 rfl rfl rfl ?_
        refine w_iload (q := 151) (i := 4) (j := 0) hc dX8_laysDepths_149 rfl rfl ?_
        refine w_iast (q := 152) hc dX8_laysDepths_151 (k_62 hK) rfl (fun I_25 => ?_)
        refine w_iincB (q := 155) (i := 1) (j := 2) (lv' := fun v1_26 => [(1, .int v1_26), (4, .int v4_23), (0, .ref 43), (2, .int v2_14), (3, .int v3_15)]) hc dX8_laysDepths_152 rfl ci_1 (hN 1 rfl) (fun _ => rfl) rfl (fun v1_26 => ?_)
        refine w_iincB (q := 158) (i := 3) (j := 4) (lv' := fun v3_27 => [(3, .int v3_27), (1, .int v1_26), (4, .int v4_23), (0, .ref 43), (2, .int v2_14)]) hc dX8_laysDepths_155 rfl ci_1 (hN 3 rfl) (fun _ => rfl) rfl (fun v3_27 => ?_)
        refine w_goto (tgt := 52) hc dX8_laysDepths_158 rfl ?_
        refine w_sub [3, 1, 4, 0] rfl ?_
        exact ih v1_26 v3_27 I_25 q_22.2.2
      · refine w_goto (tgt := 155) hc dX8_laysDepths_121 rfl ?_
        refine w_iincB (q := 158) (i := 3) (j := 4) (lv' := fun v3_28 => [(3, .int v3_28), (4, .int v4_23), (0, .ref 43), (1, .int v1_13), (2, .int v2_14)]) hc dX8_laysDepths_155 rfl ci_1 (hN 3 rfl) (fun _ => rfl) rfl (fun v3_28 => ?_)
        refine w_goto (tgt := 52) hc dX8_laysDepths_158 rfl ?_
        refine w_sub [2, 3, 4, 0] rfl ?_
        exact ih v1_13 v3_28 q_22.2.1 q_22.2.2
set_option maxRecDepth 100000 in
set_option maxHeartbeats 4000000 in
theorem wl_X8_laysDepths_45 {G : GT Mm} {rm : Nat} (hc : Cx G cX8_laysDepths yX8_laysDepths.cls none 10 225) (hq : RetQ G anV meV) (hK : gK G = lK rm) (hR : gR G = lR rm) (hn : gnL G = 5) : ∀ (n : Nat) (v1_9 : Int32) (v2_10 : Int32) (I_11 : MI) (L_12 : ML), WW G 45 [(0, .ref 43), (1, .int v1_9), (2, .int v2_10)] [] I_11 L_12 (f_X8_laysDepths_45 n v1_9 v2_10 I_11 L_12) := by
  have hN : ∀ i, Nat.blt i 5 = true → i < gnL G := fun i h => hn ▸ Nat.blt_eq.mp h
  intro n
  induction n with
  | zero => intros; exact w_none _ _ _
  | succ n ih =>
    intros v1_9 v2_10 I_11 L_12
    rw [f_X8_laysDepths_45]
    refine w_iload_n (q := 46) (i := 2) (j := 2) hc dX8_laysDepths_45 rfl rfl rfl ?_
    refine w_iload_n (q := 47) (i := 1) (j := 1) hc dX8_laysDepths_46 rfl rfl rfl ?_
    refine w_icmpge (q := 50) (tgt := 167) hc dX8_laysDepths_47 rfl rfl ?_ ?_
    · exact w_return hc hq dX8_laysDepths_167 rfl rfl
    · refine w_iconst (q := 51) hc dX8_laysDepths_50 ci_0 rfl ?_
      refine w_istore_n (q := 52) (i := 3) (lv' := [(3, .int 0), (0, .ref 43), (1, .int v1_9), (2, .int v2_10)]) hc dX8_laysDepths_51 rfl (hN 3 rfl) rfl rfl ?_
      refine w_sub [1, 2, 3, 0] rfl ?_
      refine wl_X8_laysDepths_52 v2_10 hc hq hK hR hn _ ?_ FU v1_9 0 I_11 L_12
      intro v1_29 I_30 L_31
      refine w_iincB (q := 164) (i := 2) (j := 2) (lv' := fun v2_32 => [(2, .int v2_32), (0, .ref 43), (1, .int v1_29)]) hc dX8_laysDepths_161 rfl ci_1 (hN 2 rfl) (fun _ => rfl) rfl (fun v2_32 => ?_)
      refine w_goto (tgt := 45) hc dX8_laysDepths_164 rfl ?_
      refine w_sub [1, 2, 0] rfl ?_
      exact ih v1_29 v2_32 I_30 L_31
set_option maxRecDepth 100000 in
set_option maxHeartbeats 4000000 in
theorem wl_X8_laysDepths_6 {G : GT Mm} {rm : Nat} (L : ML) (hc : Cx G cX8_laysDepths yX8_laysDepths.cls none 10 225) (hq : RetQ G anV meV) (hK : gK G = lK rm) (hR : gR G = lR rm) (hn : gnL G = 5) (k0 : MI → Option Mm) (hk0 : ∀ (I_6 : MI), WW G 27 [(0, .ref 43)] [] I_6 L (k0 I_6)) : ∀ (n : Nat) (v1_2 : Int32) (I_3 : MI), WW G 6 [(0, .ref 43), (1, .int v1_2)] [] I_3 L (f_X8_laysDepths_6 L k0 n v1_2 I_3) := by
  have hN : ∀ i, Nat.blt i 5 = true → i < gnL G := fun i h => hn ▸ Nat.blt_eq.mp h
  intro n
  induction n with
  | zero => intros; exact w_none _ _ _
  | succ n ih =>
    intros v1_2 I_3
    rw [f_X8_laysDepths_6]
    refine w_iload_n (q := 7) (i := 1) (j := 1) hc dX8_laysDepths_6 rfl rfl rfl ?_
    refine w_aload_n (q := 8) (i := 0) (j := 0) hc dX8_laysDepths_7 rfl rfl rfl ?_
    refine gf_X8_290 (q := 11) hc dX8_laysDepths_8 (k_43 hK) rfl ?_
    refine w_icmpge (q := 14) (tgt := 27) hc dX8_laysDepths_11 rfl rfl ?_ ?_
    · refine w_sub [0] rfl ?_
      exact hk0 I_3
    · refine w_aload_n (q := 15) (i := 0) (j := 0) hc dX8_laysDepths_14 rfl rfl rfl ?_
      refine gf_X8_63 (q := 18) hc dX8_laysDepths_15 (k_43 hK) (r_43_22 hR) rfl ?_
      refine w_iload_n (q := 19) (i := 1) (j := 1) hc dX8_laysDepths_18 rfl rfl rfl ?_
      refine w_iconst (q := 20) hc dX8_laysDepths_19 ci_m1 rfl ?_
      refine w_iast (q := 21) hc dX8_laysDepths_20 (k_61 hK) rfl (fun I_4 => ?_)
      refine w_iincB (q := 24) (i := 1) (j := 1) (lv' := fun v1_5 => [(1, .int v1_5), (0, .ref 43)]) hc dX8_laysDepths_21 rfl ci_1 (hN 1 rfl) (fun _ => rfl) rfl (fun v1_5 => ?_)
      refine w_goto (tgt := 6) hc dX8_laysDepths_24 rfl ?_
      refine w_sub [1, 0] rfl ?_
      exact ih v1_5 I_4
set_option maxRecDepth 100000 in
set_option maxHeartbeats 4000000 in
theorem m_X8_laysDepths {l : Launch} {K : KT} {R : MR} {rm : Nat} {I : MI} {L : ML} (hK0 : K = lK rm) (hR0 : R = lR rm) : MFg l yX8_laysDepths cX8_laysDepths 5 none 10 225 [.ref 43] K R I L anV meV (f_X8_laysDepths I L) := by
  refine mf_of (plainFor_of_name (by decide)) (Nat.le_of_ble_eq_true rfl) ?_
  intro G hc _ hK1 hR1 hn hq
  have hK := hK1.trans hK0
  have hR := hR1.trans hR0
  have hN : ∀ i, Nat.blt i 5 = true → i < gnL G := fun i h => hn ▸ Nat.blt_eq.mp h
  unfold f_X8_laysDepths
  show WW G 0 [(0, .ref 43)] [] I L _
  refine w_aload_n (q := 1) (i := 0) (j := 0) hc dX8_laysDepths_0 rfl rfl rfl ?_
  refine w_callV_Wv (q := 4) (st := []) (args := []) (p := 43) hc (m_X8_laysAll hK hR) dX8_laysDepths_1 ml_X8_293 cf_X8_laysAll iv_X8_laysAll (k_43 hK) (C := RX8) (T := TX8) (N := 45) rfl rfl (Nat.lt_of_succ_le (Nat.le_of_ble_eq_true rfl)) rfl rfl (Nat.le_of_ble_eq_true rfl) ⟨Nat.le_of_ble_eq_true rfl, Nat.le_of_ble_eq_true rfl⟩ rfl (fun q_1 => ?_)
  refine w_iconst (q := 5) hc dX8_laysDepths_4 ci_0 rfl ?_
  refine w_istore_n (q := 6) (i := 1) (lv' := [(1, .int 0), (0, .ref 43)]) hc dX8_laysDepths_5 rfl (hN 1 rfl) rfl rfl ?_
  refine w_sub [1, 0] rfl ?_
  refine wl_X8_laysDepths_6 q_1.2 hc hq hK hR hn _ ?_ FU 0 q_1.1
  intro I_6
  refine w_aload_n (q := 28) (i := 0) (j := 0) hc dX8_laysDepths_27 rfl rfl rfl ?_
  refine gf_X8_63 (q := 31) hc dX8_laysDepths_28 (k_43 hK) (r_43_22 hR) rfl ?_
  refine w_iconst (q := 32) hc dX8_laysDepths_31 ci_0 rfl ?_
  refine w_iconst (q := 33) hc dX8_laysDepths_32 ci_0 rfl ?_
  refine w_iast (q := 34) hc dX8_laysDepths_33 (k_61 hK) rfl (fun I_7 => ?_)
  refine w_aload_n (q := 35) (i := 0) (j := 0) hc dX8_laysDepths_34 rfl rfl rfl ?_
  refine gf_X8_66 (q := 38) hc dX8_laysDepths_35 (k_43 hK) (r_43_23 hR) rfl ?_
  refine w_iconst (q := 39) hc dX8_laysDepths_38 ci_0 rfl ?_
  refine w_iconst (q := 40) hc dX8_laysDepths_39 ci_0 rfl ?_
  refine w_iast (q := 41) hc dX8_laysDepths_40 (k_62 hK) rfl (fun I_8 => ?_)
  refine w_iconst (q := 42) hc dX8_laysDepths_41 ci_1 rfl ?_
  refine w_istore_n (q := 43) (i := 1) (lv' := [(1, .int 1), (0, .ref 43)]) hc dX8_laysDepths_42 rfl (hN 1 rfl) rfl rfl ?_
  refine w_iconst (q := 44) hc dX8_laysDepths_43 ci_0 rfl ?_
  refine w_istore_n (q := 45) (i := 2) (lv' := [(2, .int 0), (1, .int 1), (0, .ref 43)]) hc dX8_laysDepths_44 rfl (hN 2 rfl) rfl rfl ?_
  refine w_sub [2, 1, 0] rfl ?_
  exact wl_X8_laysDepths_45 hc hq hK hR hn FU 1 0 I_8 q_1.2
set_option maxRecDepth 100000 in
set_option maxHeartbeats 4000000 in
theorem wl_X8_wayTo_44 {G : GT (Int32 × Mm)} {rm : Nat} (a1 : Nat) (v2_9 : Int32) (v3_10 : Int32) (v4_11 : Int32) (hc : Cx G cX8_wayTo yX8_wayTo.cls (some .int) 3 74) (hq : RetQ G anIW meW) (hK : gK G = lK rm) (hR : gR G = lR rm) (hn : gnL G = 6) (ha1 : (lK rm)[a1]? = some (10, 10)) (k0 : Int32 → MI → ML → Option (Int32 × Mm)) (hk0 : ∀ (v5_20 : Int32) (I_21 : MI) (L_22 : ML), WW G 105 [(0, .ref 43), (2, .int v2_9), (3, .int v3_10), (4, .int v4_11), (5, .int v5_20)] [] I_21 L_22 (k0 v5_20 I_21 L_22)) : ∀ (n : Nat) (v5_12 : Int32) (I_13 : MI) (L_14 : ML), WW G 44 [(0, .ref 43), (2, .int v2_9), (3, .int v3_10), (4, .int v4_11), (5, .int v5_12)] [] I_13 L_14 (f_X8_wayTo_44 a1 v2_9 v3_10 v4_11 k0 n v5_12 I_13 L_14) := by
  have hN : ∀ i, Nat.blt i 6 = true → i < gnL G := fun i h => hn ▸ Nat.blt_eq.mp h
  intro n
  induction n with
  | zero => intros; exact w_none _ _ _
  | succ n ih =>
    intros v5_12 I_13 L_14
    rw [f_X8_wayTo_44]
    refine w_iincB (q := 47) (i := 5) (j := 4) (lv' := fun v5_15 => [(5, .int v5_15), (0, .ref 43), (2, .int v2_9), (3, .int v3_10), (4, .int v4_11)]) hc dX8_wayTo_44 rfl ci_1 (hN 5 rfl) (fun _ => rfl) rfl (fun v5_15 => ?_)
    refine w_aload_n (q := 48) (i := 0) (j := 1) hc dX8_wayTo_47 rfl rfl rfl ?_
    refine w_iload (q := 50) (i := 5) (j := 0) hc dX8_wayTo_48 rfl rfl ?_
    refine w_aload_n (q := 51) (i := 0) (j := 1) hc dX8_wayTo_50 rfl rfl rfl ?_
    refine gf_X8_25 (q := 54) hc dX8_wayTo_51 (k_43 hK) (r_43_9 hR) rfl ?_
    refine w_callV_Wv (q := 57) (st := []) (args := [.int v5_15, .ref 49]) (p := 43) hc (m_X8_laysStep hK hR (kB hK (k_49 hK))) dX8_wayTo_54 ml_X8_210 cf_X8_laysStep iv_X8_laysStep (k_43 hK) (C := RX8) (T := TX8) (N := 45) rfl rfl (Nat.lt_of_succ_le (Nat.le_of_ble_eq_true rfl)) rfl rfl (Nat.le_of_ble_eq_true rfl) ⟨Nat.le_of_ble_eq_true rfl, Nat.le_of_ble_eq_true rfl⟩ rfl (fun q_16 => ?_)
    refine w_aload_n (q := 58) (i := 0) (j := 1) hc dX8_wayTo_57 rfl rfl rfl ?_
    refine gf_X8_25 (q := 61) hc dX8_wayTo_58 (k_43 hK) (r_43_9 hR) rfl ?_
    refine w_aload_n (q := 62) (i := 0) (j := 1) hc dX8_wayTo_61 rfl rfl rfl ?_
    refine gf_X8_28 (q := 65) hc dX8_wayTo_62 (k_43 hK) (r_43_10 hR) rfl ?_
    refine w_callS_Wv (q := 68) (st := []) (args := [.ref 49, .ref 50]) hc (m_X8_inverts hK hR (kB hK (k_49 hK)) (kB hK (k_50 hK))) dX8_wayTo_65 ml_X8_130 cf_X8_inverts st_X8_inverts rfl rfl (Nat.le_of_ble_eq_true rfl) ⟨Nat.le_of_ble_eq_true rfl, Nat.le_of_ble_eq_true rfl⟩ rfl (fun q_17 => ?_)
    refine w_aload_n (q := 69) (i := 0) (j := 1) hc dX8_wayTo_68 rfl rfl rfl ?_
    refine gf_X8_28 (q := 72) hc dX8_wayTo_69 (k_43 hK) (r_43_10 hR) rfl ?_
    refine w_aload_n (q := 73) (i := 0) (j := 1) hc dX8_wayTo_72 rfl rfl rfl ?_
    refine gf_X8_16 (q := 76) hc dX8_wayTo_73 (k_43 hK) (r_43_6 hR) rfl ?_
    refine w_aload_n (q := 77) (i := 0) (j := 1) hc dX8_wayTo_76 rfl rfl rfl ?_
    refine gf_X8_22 (q := 80) hc dX8_wayTo_77 (k_43 hK) (r_43_8 hR) rfl ?_
    refine w_callS_Wv (q := 83) (st := []) (args := [.ref 50, .ref 46, .ref 48]) hc (m_X8_makes hK hR (kB hK (k_50 hK)) (kB hK (k_46 hK)) (kB hK (k_48 hK))) dX8_wayTo_80 ml_X8_138 cf_X8_makes st_X8_makes rfl rfl (Nat.le_of_ble_eq_true rfl) ⟨Nat.le_of_ble_eq_true rfl, Nat.le_of_ble_eq_true rfl⟩ rfl (fun q_18 => ?_)
    refine w_aload_n (q := 84) (i := 0) (j := 1) hc dX8_wayTo_83 rfl rfl rfl ?_
    refine gf_X8_63 (q := 87) hc dX8_wayTo_84 (k_43 hK) (r_43_22 hR) rfl ?_
    refine w_aload_n (q := 88) (i := 0) (j := 1) hc dX8_wayTo_87 rfl rfl rfl ?_
    refine w_aload_n (q := 89) (i := 0) (j := 1) hc dX8_wayTo_88 rfl rfl rfl ?_
    refine gf_X8_22 (q := 92) hc dX8_wayTo_89 (k_43 hK) (r_43_8 hR) rfl ?_
    refine w_callV_Wi (q := 95) (st := [.ref 61]) (args := [.ref 48]) (p := 43) hc (m_X8_placeOf hK hR (kB hK (k_48 hK))) dX8_wayTo_92 ml_X8_284 cf_X8_placeOf iv_X8_placeOf (k_43 hK) (C := RX8) (T := TX8) (N := 45) rfl rfl (Nat.lt_of_succ_le (Nat.le_of_ble_eq_true rfl)) rfl rfl (Nat.le_of_ble_eq_true rfl) ⟨Nat.le_of_ble_eq_true rfl, Nat.le_of_ble_eq_true rfl⟩ rfl (fun q_19 => ?_)
    refine w_iald (q := 96) hc dX8_wayTo_95 (k_61 hK) rfl ?_
    refine w_iload_n (q := 97) (i := 3) (j := 3) hc dX8_wayTo_96 rfl rfl rfl ?_
    refine w_iload (q := 99) (i := 4) (j := 4) hc dX8_wayTo_97 rfl rfl ?_
    refine w_isub (q := 100) hc dX8_wayTo_99  rfl ?_
    refine w_iconst (q := 101) hc dX8_wayTo_100 ci_1 rfl ?_
    refine w_isub (q := 102) hc dX8_wayTo_101  rfl ?_
    refine w_icmpne (q := 105) (tgt := 44) hc dX8_wayTo_102 rfl rfl ?_ ?_
    · refine w_sub [1, 2, 3, 4, 0] rfl ?_
      exact hk0 v5_15 q_19.2.1 q_19.2.2
    · refine w_sub [1, 2, 3, 4, 0] rfl ?_
      exact ih v5_15 q_19.2.1 q_19.2.2
set_option maxRecDepth 100000 in
set_option maxHeartbeats 4000000 in
theorem wl_X8_wayTo_41 {G : GT (Int32 × Mm)} {rm : Nat} (a1 : Nat) (v2_4 : Int32) (v3_5 : Int32) (hc : Cx G cX8_wayTo yX8_wayTo.cls (some .int) 3 74) (hq : RetQ G anIW meW) (hK : gK G = lK rm) (hR : gR G = lR rm) (hn : gnL G = 6) (ha1 : (lK rm)[a1]? = some (10, 10)) : ∀ (n : Nat) (v4_6 : Int32) (I_7 : MI) (L_8 : ML), WW G 41 [(0, .ref 43), (2, .int v2_4), (3, .int v3_5), (4, .int v4_6)] [] I_7 L_8 (f_X8_wayTo_41 a1 v2_4 v3_5 n v4_6 I_7 L_8) := by
  have hN : ∀ i, Nat.blt i 6 = true → i < gnL G := fun i h => hn ▸ Nat.blt_eq.mp h
  intro n
  induction n with
  | zero => intros; exact w_none _ _ _
  | succ n ih =>
    intros v4_6 I_7 L_8
    rw [f_X8_wayTo_41]
    refine w_iconst (q := 42) hc dX8_wayTo_41 ci_m1 rfl ?_
    refine w_istore (q := 44) (i := 5) (lv' := [(5, .int (-1)), (0, .ref 43), (2, .int v2_4), (3, .int v3_5), (4, .int v4_6)]) hc dX8_wayTo_42 (hN 5 rfl) rfl rfl ?_
    refine w_sub [1, 2, 3, 4, 0] rfl ?_
    refine wl_X8_wayTo_44 a1 v2_4 v3_5 v4_6 hc hq hK hR hn ha1 _ ?_ FU (-1) I_7 L_8
    intro v5_20 I_21 L_22
    refine w_iload (q := 107) (i := 4) (j := 3) hc dX8_wayTo_105 rfl rfl ?_
    refine w_iload_n (q := 108) (i := 2) (j := 1) hc dX8_wayTo_107 rfl rfl rfl ?_
    refine w_icmpne (q := 111) (tgt := 114) hc dX8_wayTo_108 rfl rfl ?_ ?_
    · refine w_iload (q := 113) (i := 5) (j := 4) hc dX8_wayTo_111 rfl rfl ?_
      exact w_ireturn (v := v5_20) hc hq dX8_wayTo_113 rfl rfl rfl
    · refine w_aload_n (q := 115) (i := 0) (j := 0) hc dX8_wayTo_114 rfl rfl rfl ?_
      refine gf_X8_22 (q := 118) hc dX8_wayTo_115 (k_43 hK) (r_43_8 hR) rfl ?_
      refine w_iconst (q := 119) hc dX8_wayTo_118 ci_0 rfl ?_
      refine w_aload_n (q := 120) (i := 0) (j := 0) hc dX8_wayTo_119 rfl rfl rfl ?_
      refine gf_X8_16 (q := 123) hc dX8_wayTo_120 (k_43 hK) (r_43_6 hR) rfl ?_
      refine w_iconst (q := 124) hc dX8_wayTo_123 ci_0 rfl ?_
      refine w_callS_Wv (q := 127) (st := []) (args := [.ref 48, .int 0, .ref 46, .int 0]) hc (m_X8_copies hK hR (kB hK (k_48 hK)) (kB hK (k_46 hK))) dX8_wayTo_124 ml_X8_100 cf_X8_copies st_X8_copies rfl rfl (Nat.le_of_ble_eq_true rfl) ⟨Nat.le_of_ble_eq_true rfl, Nat.le_of_ble_eq_true rfl⟩ rfl (fun q_23 => ?_)
      refine w_iincB (q := 130) (i := 4) (j := 3) (lv' := fun v4_24 => [(4, .int v4_24), (0, .ref 43), (2, .int v2_4), (3, .int v3_5), (5, .int v5_20)]) hc dX8_wayTo_127 rfl ci_1 (hN 4 rfl) (fun _ => rfl) rfl (fun v4_24 => ?_)
      refine w_goto (tgt := 41) hc dX8_wayTo_130 rfl ?_
      refine w_sub [1, 2, 3, 0] rfl ?_
      exact ih v4_24 q_23.1 q_23.2
set_option maxRecDepth 100000 in
set_option maxHeartbeats 4000000 in
theorem m_X8_wayTo {l : Launch} {K : KT} {R : MR} {rm : Nat} {a1 : Nat} {a2 : Int32} {I : MI} {L : ML} (hK0 : K = lK rm) (hR0 : R = lR rm) (ha1 : (lK rm)[a1]? = some (10, 10)) : MFg l yX8_wayTo cX8_wayTo 6 (some .int) 3 74 [.ref 43, .ref a1, .int a2] K R I L anIW meW (f_X8_wayTo a1 a2 I L) := by
  refine mf_of (plainFor_of_name (by decide)) (Nat.le_of_ble_eq_true rfl) ?_
  intro G hc _ hK1 hR1 hn hq
  have hK := hK1.trans hK0
  have hR := hR1.trans hR0
  have hN : ∀ i, Nat.blt i 6 = true → i < gnL G := fun i h => hn ▸ Nat.blt_eq.mp h
  unfold f_X8_wayTo
  show WW G 0 [(0, .ref 43), (1, .ref a1), (2, .int a2)] [] I L _
  refine w_aload_n (q := 1) (i := 1) (j := 1) hc dX8_wayTo_0 rfl rfl rfl ?_
  refine w_iconst (q := 2) hc dX8_wayTo_1 ci_0 rfl ?_
  refine w_aload_n (q := 3) (i := 0) (j := 0) hc dX8_wayTo_2 rfl rfl rfl ?_
  refine gf_X8_16 (q := 6) hc dX8_wayTo_3 (k_43 hK) (r_43_6 hR) rfl ?_
  refine w_iconst (q := 7) hc dX8_wayTo_6 ci_0 rfl ?_
  refine w_callS_Wv (q := 10) (st := []) (args := [.ref a1, .int 0, .ref 46, .int 0]) hc (m_X8_copies hK hR (kB hK (kA hK ha1)) (kB hK (k_46 hK))) dX8_wayTo_7 ml_X8_100 cf_X8_copies st_X8_copies rfl rfl (Nat.le_of_ble_eq_true rfl) ⟨Nat.le_of_ble_eq_true rfl, Nat.le_of_ble_eq_true rfl⟩ rfl (fun q_1 => ?_)
  refine w_aload_n (q := 11) (i := 0) (j := 0) hc dX8_wayTo_10 rfl rfl rfl ?_
  refine gf_X8_63 (q := 14) hc dX8_wayTo_11 (k_43 hK) (r_43_22 hR) rfl ?_
  refine w_aload_n (q := 15) (i := 0) (j := 0) hc dX8_wayTo_14 rfl rfl rfl ?_
  refine w_aload_n (q := 16) (i := 0) (j := 0) hc dX8_wayTo_15 rfl rfl rfl ?_
  refine gf_X8_16 (q := 19) hc dX8_wayTo_16 (k_43 hK) (r_43_6 hR) rfl ?_
  refine w_callV_Wi (q := 22) (st := [.ref 61]) (args := [.ref 46]) (p := 43) hc (m_X8_placeOf hK hR (kB hK (k_46 hK))) dX8_wayTo_19 ml_X8_284 cf_X8_placeOf iv_X8_placeOf (k_43 hK) (C := RX8) (T := TX8) (N := 45) rfl rfl (Nat.lt_of_succ_le (Nat.le_of_ble_eq_true rfl)) rfl rfl (Nat.le_of_ble_eq_true rfl) ⟨Nat.le_of_ble_eq_true rfl, Nat.le_of_ble_eq_true rfl⟩ rfl (fun q_2 => ?_)
  refine w_iald (q := 23) hc dX8_wayTo_22 (k_61 hK) rfl ?_
  refine w_istore_nB (q := 24) (i := 3) (lv' := fun v3_3 => [(3, .int v3_3), (0, .ref 43), (1, .ref a1), (2, .int a2)]) hc dX8_wayTo_23 rfl (hN 3 rfl) (fun _ => rfl) rfl (fun v3_3 => ?_)
  refine w_iload_n (q := 25) (i := 2) (j := 3) hc dX8_wayTo_24 rfl rfl rfl ?_
  refine w_iconst (q := 26) hc dX8_wayTo_25 ci_m1 rfl ?_
  refine w_icmpne (q := 29) (tgt := 31) hc dX8_wayTo_26 rfl rfl ?_ ?_
  · refine w_iload_n (q := 30) (i := 3) (j := 0) hc dX8_wayTo_29 rfl rfl rfl ?_
    exact w_ireturn (v := v3_3) hc hq dX8_wayTo_30 rfl rfl rfl
  · refine w_iload_n (q := 32) (i := 2) (j := 3) hc dX8_wayTo_31 rfl rfl rfl ?_
    refine w_iload_n (q := 33) (i := 3) (j := 0) hc dX8_wayTo_32 rfl rfl rfl ?_
    refine w_icmplt (q := 36) (tgt := 38) hc dX8_wayTo_33 rfl rfl ?_ ?_
    · refine w_iconst (q := 39) hc dX8_wayTo_38 ci_0 rfl ?_
      refine w_istore (q := 41) (i := 4) (lv' := [(4, .int 0), (3, .int v3_3), (0, .ref 43), (1, .ref a1), (2, .int a2)]) hc dX8_wayTo_39 (hN 4 rfl) rfl rfl ?_
      refine w_sub [2, 4, 1, 0] rfl ?_
      exact wl_X8_wayTo_41 a1 a2 v3_3 hc hq hK hR hn ha1 FU 0 q_2.2.1 q_2.2.2
    · refine w_iconst (q := 37) hc dX8_wayTo_36 ci_m1 rfl ?_
      exact w_ireturn (v := (-1)) hc hq dX8_wayTo_37 rfl rfl rfl
set_option maxRecDepth 100000 in
set_option maxHeartbeats 4000000 in
theorem m_X8_way {l : Launch} {K : KT} {R : MR} {rm : Nat} {a1 : Int64} {a3 : Int32} {I : MI} {L : ML} (hK0 : K = lK rm) (hR0 : R = lR rm) : MFg l yX8_way cX8_way 4 (some .int) 11 249 [.ref 43, .long a1, .int a3] K R I L anIW meW (f_X8_way a1 a3 I L) := by
  refine mf_of (plainFor_of_name (by decide)) (Nat.le_of_ble_eq_true rfl) ?_
  intro G hc _ hK1 hR1 hn hq
  have hK := hK1.trans hK0
  have hR := hR1.trans hR0
  have hN : ∀ i, Nat.blt i 4 = true → i < gnL G := fun i h => hn ▸ Nat.blt_eq.mp h
  unfold f_X8_way
  show WW G 0 [(0, .ref 43), (1, .long a1), (3, .int a3)] [] I L _
  refine w_aload_n (q := 1) (i := 0) (j := 0) hc dX8_way_0 rfl rfl rfl ?_
  refine w_aload_n (q := 2) (i := 0) (j := 0) hc dX8_way_1 rfl rfl rfl ?_
  refine w_aload_n (q := 3) (i := 0) (j := 0) hc dX8_way_2 rfl rfl rfl ?_
  refine w_lload_n (q := 4) (i := 1) (j := 1) hc dX8_way_3 rfl rfl rfl ?_
  refine w_aload_n (q := 5) (i := 0) (j := 0) hc dX8_way_4 rfl rfl rfl ?_
  refine gf_X8_19 (q := 8) hc dX8_way_5 (k_43 hK) (r_43_7 hR) rfl ?_
  refine w_callV_Wz (q := 11) (st := [.ref 43, .ref 43]) (args := [.long a1, .ref 47]) (p := 43) hc (m_X8_lies hK hR (kB hK (k_47 hK))) dX8_way_8 ml_X8_217 cf_X8_lies iv_X8_lies (k_43 hK) (C := RX8) (T := TX8) (N := 45) rfl rfl (Nat.lt_of_succ_le (Nat.le_of_ble_eq_true rfl)) rfl rfl (Nat.le_of_ble_eq_true rfl) ⟨Nat.le_of_ble_eq_true rfl, Nat.le_of_ble_eq_true rfl⟩ rfl (fun q_1 => ?_)
  refine w_join (fun j24_250 : Bool → Option (Int32 × Mm) => ∀ (s0_2 : Bool), WW G 24 [(0, .ref 43), (3, .int a3)] [.int (b2i s0_2), .ref 43, .ref 43] q_1.2.1 q_1.2.2 (j24_250 s0_2)) ?_ ?_
  · intro s0_2
    refine w_callV_Wi (q := 27) (st := [.ref 43]) (args := [.int (b2i s0_2)]) (p := 43) hc (m_X8_whySmall hK hR) dX8_way_24 ml_X8_299 cf_X8_whySmall iv_X8_whySmall (k_43 hK) (C := RX8) (T := TX8) (N := 45) rfl rfl (Nat.lt_of_succ_le (Nat.le_of_ble_eq_true rfl)) rfl rfl (Nat.le_of_ble_eq_true rfl) ⟨Nat.le_of_ble_eq_true rfl, Nat.le_of_ble_eq_true rfl⟩ rfl (fun q_3 => ?_)
    refine w_callV_Wz (q := 30) (st := []) (args := [.int q_3.1]) (p := 43) hc (m_X8_is hK hR) dX8_way_27 ml_X8_194 cf_X8_is iv_X8_is (k_43 hK) (C := RX8) (T := TX8) (N := 45) rfl rfl (Nat.lt_of_succ_le (Nat.le_of_ble_eq_true rfl)) rfl rfl (Nat.le_of_ble_eq_true rfl) ⟨Nat.le_of_ble_eq_true rfl, Nat.le_of_ble_eq_true rfl⟩ rfl (fun q_4 => ?_)
    refine w_ifne (q := 33) (tgt := 35) hc dX8_way_30 rfl rfl ?_ ?_
    · refine w_iconst (q := 34) hc dX8_way_33 ci_m1 rfl ?_
      exact w_ireturn (v := (-1)) hc hq dX8_way_34 rfl rfl rfl
    · refine w_aload_n (q := 36) (i := 0) (j := 0) hc dX8_way_35 rfl rfl rfl ?_
      refine w_iconst (q := 37) hc dX8_way_36 ci_0 rfl ?_
      refine w_aload_n (q := 38) (i := 0) (j := 0) hc dX8_way_37 rfl rfl rfl ?_
      refine gf_X8_19 (q := 41) hc dX8_way_38 (k_43 hK) (r_43_7 hR) rfl ?_
      refine w_callV_Wz (q := 44) (st := []) (args := [.int 0, .ref 47]) (p := 43) hc (m_X8_isMember hK hR (kB hK (k_47 hK))) dX8_way_41 ml_X8_275 cf_X8_isMember iv_X8_isMember (k_43 hK) (C := RX8) (T := TX8) (N := 45) rfl rfl (Nat.lt_of_succ_le (Nat.le_of_ble_eq_true rfl)) rfl rfl (Nat.le_of_ble_eq_true rfl) ⟨Nat.le_of_ble_eq_true rfl, Nat.le_of_ble_eq_true rfl⟩ rfl (fun q_5 => ?_)
      refine w_ifne (q := 47) (tgt := 54) hc dX8_way_44 rfl rfl ?_ ?_
      · refine w_aload_n (q := 48) (i := 0) (j := 0) hc dX8_way_47 rfl rfl rfl ?_
        refine w_bipush (q := 50) hc dX8_way_48 cb_6 rfl ?_
        refine w_callV_Wi (q := 53) (st := []) (args := [.int 6]) (p := 43) hc (m_X8_refuse hK hR) dX8_way_50 ml_X8_266 cf_X8_refuse iv_X8_refuse (k_43 hK) (C := RX8) (T := TX8) (N := 45) rfl rfl (Nat.lt_of_succ_le (Nat.le_of_ble_eq_true rfl)) rfl rfl (Nat.le_of_ble_eq_true rfl) ⟨Nat.le_of_ble_eq_true rfl, Nat.le_of_ble_eq_true rfl⟩ rfl (fun q_9 => ?_)
        exact w_ireturn (v := q_9.1) hc hq dX8_way_53 rfl rfl rfl
      · refine w_aload_n (q := 55) (i := 0) (j := 0) hc dX8_way_54 rfl rfl rfl ?_
        refine w_callV_Wv (q := 58) (st := []) (args := []) (p := 43) hc (m_X8_laysDepths hK hR) dX8_way_55 ml_X8_302 cf_X8_laysDepths iv_X8_laysDepths (k_43 hK) (C := RX8) (T := TX8) (N := 45) rfl rfl (Nat.lt_of_succ_le (Nat.le_of_ble_eq_true rfl)) rfl rfl (Nat.le_of_ble_eq_true rfl) ⟨Nat.le_of_ble_eq_true rfl, Nat.le_of_ble_eq_true rfl⟩ rfl (fun q_6 => ?_)
        refine w_aload_n (q := 59) (i := 0) (j := 0) hc dX8_way_58 rfl rfl rfl ?_
        refine w_aload_n (q := 60) (i := 0) (j := 0) hc dX8_way_59 rfl rfl rfl ?_
        refine w_aload_n (q := 61) (i := 0) (j := 0) hc dX8_way_60 rfl rfl rfl ?_
        refine gf_X8_19 (q := 64) hc dX8_way_61 (k_43 hK) (r_43_7 hR) rfl ?_
        refine w_iload_n (q := 65) (i := 3) (j := 1) hc dX8_way_64 rfl rfl rfl ?_
        refine w_callV_Wi (q := 68) (st := [.ref 43]) (args := [.ref 47, .int a3]) (p := 43) hc (m_X8_wayTo hK hR (kB hK (k_47 hK))) dX8_way_65 ml_X8_305 cf_X8_wayTo iv_X8_wayTo (k_43 hK) (C := RX8) (T := TX8) (N := 45) rfl rfl (Nat.lt_of_succ_le (Nat.le_of_ble_eq_true rfl)) rfl rfl (Nat.le_of_ble_eq_true rfl) ⟨Nat.le_of_ble_eq_true rfl, Nat.le_of_ble_eq_true rfl⟩ rfl (fun q_7 => ?_)
        refine w_callV_Wi (q := 71) (st := []) (args := [.int q_7.1]) (p := 43) hc (m_X8_there hK hR) dX8_way_68 ml_X8_272 cf_X8_there iv_X8_there (k_43 hK) (C := RX8) (T := TX8) (N := 45) rfl rfl (Nat.lt_of_succ_le (Nat.le_of_ble_eq_true rfl)) rfl rfl (Nat.le_of_ble_eq_true rfl) ⟨Nat.le_of_ble_eq_true rfl, Nat.le_of_ble_eq_true rfl⟩ rfl (fun q_8 => ?_)
        exact w_ireturn (v := q_8.1) hc hq dX8_way_71 rfl rfl rfl
  · intro j24_250 hj24_250
    refine w_join (fun j23_251 : Option (Int32 × Mm) => WW G 23 [(0, .ref 43), (3, .int a3)] [.ref 43, .ref 43] q_1.2.1 q_1.2.2 (j23_251)) ?_ ?_
    · refine w_iconst (q := 24) hc dX8_way_23 ci_1 rfl ?_
      exact hj24_250 true
    · intro j23_251 hj23_251
      refine w_ifeq (q := 14) (tgt := 23) hc dX8_way_11 rfl rfl ?_ ?_
      · refine w_sub [0, 2] rfl ?_
        exact hj23_251
      · refine w_iload_n (q := 15) (i := 3) (j := 2) hc dX8_way_14 rfl rfl rfl ?_
        refine w_iconst (q := 16) hc dX8_way_15 ci_m1 rfl ?_
        refine w_icmplt (q := 19) (tgt := 23) hc dX8_way_16 rfl rfl ?_ ?_
        · refine w_sub [0, 2] rfl ?_
          exact hj23_251
        · refine w_iconst (q := 20) hc dX8_way_19 ci_0 rfl ?_
          refine w_goto (tgt := 24) hc dX8_way_20 rfl ?_
          refine w_sub [0, 2] rfl ?_
          exact hj24_250 false
set_option maxRecDepth 100000 in
set_option maxHeartbeats 4000000 in
theorem wl_X8_deepMost_4 {G : GT Int32} {rm : Nat} (I : MI) (L : ML) (hc : Cx G cX8_deepMost yX8_deepMost.cls (some .int) 0 0) (hq : RetQ G anI (meR I L)) (hK : gK G = lK rm) (hR : gR G = lR rm) (hn : gnL G = 3) : ∀ (n : Nat) (v1_1 : Int32) (v2_2 : Int32), WW G 4 [(0, .ref 43), (1, .int v1_1), (2, .int v2_2)] [] I L (f_X8_deepMost_4 I L n v1_1 v2_2) := by
  have hN : ∀ i, Nat.blt i 3 = true → i < gnL G := fun i h => hn ▸ Nat.blt_eq.mp h
  intro n
  induction n with
  | zero => intros; exact w_none _ _ _
  | succ n ih =>
    intros v1_1 v2_2
    rw [f_X8_deepMost_4]
    refine w_iload_n (q := 5) (i := 2) (j := 2) hc dX8_deepMost_4 rfl rfl rfl ?_
    refine w_aload_n (q := 6) (i := 0) (j := 0) hc dX8_deepMost_5 rfl rfl rfl ?_
    refine gf_X8_290 (q := 9) hc dX8_deepMost_6 (k_43 hK) rfl ?_
    refine w_icmpge (q := 12) (tgt := 39) hc dX8_deepMost_9 rfl rfl ?_ ?_
    · refine w_iload_n (q := 40) (i := 1) (j := 1) hc dX8_deepMost_39 rfl rfl rfl ?_
      exact w_ireturn (v := v1_1) hc hq dX8_deepMost_40 rfl rfl rfl
    · refine w_aload_n (q := 13) (i := 0) (j := 0) hc dX8_deepMost_12 rfl rfl rfl ?_
      refine gf_X8_63 (q := 16) hc dX8_deepMost_13 (k_43 hK) (r_43_22 hR) rfl ?_
      refine w_iload_n (q := 17) (i := 2) (j := 2) hc dX8_deepMost_16 rfl rfl rfl ?_
      refine w_iald (q := 18) hc dX8_deepMost_17 (k_61 hK) rfl ?_
      refine w_iload_n (q := 19) (i := 1) (j := 1) hc dX8_deepMost_18 rfl rfl rfl ?_
      refine w_icmple (q := 22) (tgt := 31) hc dX8_deepMost_19 rfl rfl ?_ ?_
      · refine w_iload_n (q := 32) (i := 1) (j := 1) hc dX8_deepMost_31 rfl rfl rfl ?_
        refine w_istore_n (q := 33) (i := 1) (lv' := [(1, .int v1_1), (0, .ref 43), (2, .int v2_2)]) hc dX8_deepMost_32 rfl (hN 1 rfl) rfl rfl ?_
        refine w_iincB (q := 36) (i := 2) (j := 2) (lv' := fun v2_3 => [(2, .int v2_3), (1, .int v1_1), (0, .ref 43)]) hc dX8_deepMost_33 rfl ci_1 (hN 2 rfl) (fun _ => rfl) rfl (fun v2_3 => ?_)
        refine w_goto (tgt := 4) hc dX8_deepMost_36 rfl ?_
        refine w_sub [2, 1, 0] rfl ?_
        exact ih v1_1 v2_3
      · refine w_aload_n (q := 23) (i := 0) (j := 0) hc dX8_deepMost_22 rfl rfl rfl ?_
        refine gf_X8_63 (q := 26) hc dX8_deepMost_23 (k_43 hK) (r_43_22 hR) rfl ?_
        refine w_iload_n (q := 27) (i := 2) (j := 2) hc dX8_deepMost_26 rfl rfl rfl ?_
        refine w_iald (q := 28) hc dX8_deepMost_27 (k_61 hK) rfl ?_
        refine w_goto (tgt := 32) hc dX8_deepMost_28 rfl ?_
        refine w_istore_nB (q := 33) (i := 1) (lv' := fun v1_4 => [(1, .int v1_4), (0, .ref 43), (2, .int v2_2)]) hc dX8_deepMost_32 rfl (hN 1 rfl) (fun _ => rfl) rfl (fun v1_4 => ?_)
        refine w_iincB (q := 36) (i := 2) (j := 2) (lv' := fun v2_5 => [(2, .int v2_5), (1, .int v1_4), (0, .ref 43)]) hc dX8_deepMost_33 rfl ci_1 (hN 2 rfl) (fun _ => rfl) rfl (fun v2_5 => ?_)
        refine w_goto (tgt := 4) hc dX8_deepMost_36 rfl ?_
        refine w_sub [2, 1, 0] rfl ?_
        exact ih v1_4 v2_5
set_option maxRecDepth 100000 in
set_option maxHeartbeats 4000000 in
theorem m_X8_deepMost {l : Launch} {K : KT} {R : MR} {rm : Nat} {I : MI} {L : ML} (hK0 : K = lK rm) (hR0 : R = lR rm) : MFg l yX8_deepMost cX8_deepMost 3 (some .int) 0 0 [.ref 43] K R I L anI (meR I L) (f_X8_deepMost I L) := by
  refine mf_of (plainFor_of_name (by decide)) (Nat.le_of_ble_eq_true rfl) ?_
  intro G hc _ hK1 hR1 hn hq
  have hK := hK1.trans hK0
  have hR := hR1.trans hR0
  have hN : ∀ i, Nat.blt i 3 = true → i < gnL G := fun i h => hn ▸ Nat.blt_eq.mp h
  unfold f_X8_deepMost
  show WW G 0 [(0, .ref 43)] [] I L _
  refine w_iconst (q := 1) hc dX8_deepMost_0 ci_0 rfl ?_
  refine w_istore_n (q := 2) (i := 1) (lv' := [(1, .int 0), (0, .ref 43)]) hc dX8_deepMost_1 rfl (hN 1 rfl) rfl rfl ?_
  refine w_iconst (q := 3) hc dX8_deepMost_2 ci_0 rfl ?_
  refine w_istore_n (q := 4) (i := 2) (lv' := [(2, .int 0), (1, .int 0), (0, .ref 43)]) hc dX8_deepMost_3 rfl (hN 2 rfl) rfl rfl ?_
  refine w_sub [2, 1, 0] rfl ?_
  exact wl_X8_deepMost_4 I L hc hq hK hR hn FU 0 0
set_option maxRecDepth 100000 in
set_option maxHeartbeats 4000000 in
theorem wl_X8_deep_30 {G : GT (Int32 × Mm)} {rm : Nat} (v1_5 : Int32) (I : MI) (L : ML) (hc : Cx G cX8_deep yX8_deep.cls (some .int) 11 249) (hq : RetQ G anIW meW) (hK : gK G = lK rm) (hR : gR G = lR rm) (hn : gnL G = 4) (k0 : Int32 → Option (Int32 × Mm)) (hk0 : ∀ (v2_12 : Int32), WW G 62 [(0, .ref 43), (2, .int v2_12)] [] I L (k0 v2_12)) : ∀ (n : Nat) (v2_6 : Int32) (v3_7 : Int32), WW G 30 [(0, .ref 43), (1, .int v1_5), (2, .int v2_6), (3, .int v3_7)] [] I L (f_X8_deep_30 v1_5 I L k0 n v2_6 v3_7) := by
  have hN : ∀ i, Nat.blt i 4 = true → i < gnL G := fun i h => hn ▸ Nat.blt_eq.mp h
  intro n
  induction n with
  | zero => intros; exact w_none _ _ _
  | succ n ih =>
    intros v2_6 v3_7
    rw [f_X8_deep_30]
    refine w_iload_n (q := 31) (i := 3) (j := 3) hc dX8_deep_30 rfl rfl rfl ?_
    refine w_aload_n (q := 32) (i := 0) (j := 0) hc dX8_deep_31 rfl rfl rfl ?_
    refine gf_X8_290 (q := 35) hc dX8_deep_32 (k_43 hK) rfl ?_
    refine w_icmpge (q := 38) (tgt := 62) hc dX8_deep_35 rfl rfl ?_ ?_
    · refine w_sub [0, 2] rfl ?_
      exact hk0 v2_6
    · refine w_iload_n (q := 39) (i := 2) (j := 2) hc dX8_deep_38 rfl rfl rfl ?_
      refine w_aload_n (q := 40) (i := 0) (j := 0) hc dX8_deep_39 rfl rfl rfl ?_
      refine gf_X8_63 (q := 43) hc dX8_deep_40 (k_43 hK) (r_43_22 hR) rfl ?_
      refine w_iload_n (q := 44) (i := 3) (j := 3) hc dX8_deep_43 rfl rfl rfl ?_
      refine w_iald (q := 45) hc dX8_deep_44 (k_61 hK) rfl ?_
      refine w_iload_n (q := 46) (i := 1) (j := 1) hc dX8_deep_45 rfl rfl rfl ?_
      refine w_icmpne (q := 49) (tgt := 53) hc dX8_deep_46 rfl rfl ?_ ?_
      · refine w_iconst (q := 50) hc dX8_deep_49 ci_1 rfl ?_
        refine w_goto (tgt := 54) hc dX8_deep_50 rfl ?_
        refine w_iadd (q := 55) hc dX8_deep_54  rfl ?_
        refine w_istore_nB (q := 56) (i := 2) (lv' := fun v2_10 => [(2, .int v2_10), (0, .ref 43), (1, .int v1_5), (3, .int v3_7)]) hc dX8_deep_55 rfl (hN 2 rfl) (fun _ => rfl) rfl (fun v2_10 => ?_)
        refine w_iincB (q := 59) (i := 3) (j := 3) (lv' := fun v3_11 => [(3, .int v3_11), (2, .int v2_10), (0, .ref 43), (1, .int v1_5)]) hc dX8_deep_56 rfl ci_1 (hN 3 rfl) (fun _ => rfl) rfl (fun v3_11 => ?_)
        refine w_goto (tgt := 30) hc dX8_deep_59 rfl ?_
        refine w_sub [2, 3, 1, 0] rfl ?_
        exact ih v2_10 v3_11
      · refine w_iconst (q := 54) hc dX8_deep_53 ci_0 rfl ?_
        refine w_iadd (q := 55) hc dX8_deep_54  rfl ?_
        refine w_istore_nB (q := 56) (i := 2) (lv' := fun v2_8 => [(2, .int v2_8), (0, .ref 43), (1, .int v1_5), (3, .int v3_7)]) hc dX8_deep_55 rfl (hN 2 rfl) (fun _ => rfl) rfl (fun v2_8 => ?_)
        refine w_iincB (q := 59) (i := 3) (j := 3) (lv' := fun v3_9 => [(3, .int v3_9), (2, .int v2_8), (0, .ref 43), (1, .int v1_5)]) hc dX8_deep_56 rfl ci_1 (hN 3 rfl) (fun _ => rfl) rfl (fun v3_9 => ?_)
        refine w_goto (tgt := 30) hc dX8_deep_59 rfl ?_
        refine w_sub [2, 3, 1, 0] rfl ?_
        exact ih v2_8 v3_9
set_option maxRecDepth 100000 in
set_option maxHeartbeats 4000000 in
theorem m_X8_deep {l : Launch} {K : KT} {R : MR} {rm : Nat} {a1 : Int32} {I : MI} {L : ML} (hK0 : K = lK rm) (hR0 : R = lR rm) : MFg l yX8_deep cX8_deep 4 (some .int) 11 249 [.ref 43, .int a1] K R I L anIW meW (f_X8_deep a1 I L) := by
  refine mf_of (plainFor_of_name (by decide)) (Nat.le_of_ble_eq_true rfl) ?_
  intro G hc _ hK1 hR1 hn hq
  have hK := hK1.trans hK0
  have hR := hR1.trans hR0
  have hN : ∀ i, Nat.blt i 4 = true → i < gnL G := fun i h => hn ▸ Nat.blt_eq.mp h
  unfold f_X8_deep
  show WW G 0 [(0, .ref 43), (1, .int a1)] [] I L _
  refine w_aload_n (q := 1) (i := 0) (j := 0) hc dX8_deep_0 rfl rfl rfl ?_
  refine w_aload_n (q := 2) (i := 0) (j := 0) hc dX8_deep_1 rfl rfl rfl ?_
  refine w_iload_n (q := 3) (i := 1) (j := 1) hc dX8_deep_2 rfl rfl rfl ?_
  refine w_join (fun j11_253 : Bool → Option (Int32 × Mm) => ∀ (s0_1 : Bool), WW G 11 [(0, .ref 43), (1, .int a1)] [.int (b2i s0_1), .ref 43, .ref 43] I L (j11_253 s0_1)) ?_ ?_
  · intro s0_1
    refine w_callV_Wi (q := 14) (st := [.ref 43]) (args := [.int (b2i s0_1)]) (p := 43) hc (m_X8_whySmall hK hR) dX8_deep_11 ml_X8_299 cf_X8_whySmall iv_X8_whySmall (k_43 hK) (C := RX8) (T := TX8) (N := 45) rfl rfl (Nat.lt_of_succ_le (Nat.le_of_ble_eq_true rfl)) rfl rfl (Nat.le_of_ble_eq_true rfl) ⟨Nat.le_of_ble_eq_true rfl, Nat.le_of_ble_eq_true rfl⟩ rfl (fun q_2 => ?_)
    refine w_callV_Wz (q := 17) (st := []) (args := [.int q_2.1]) (p := 43) hc (m_X8_is hK hR) dX8_deep_14 ml_X8_194 cf_X8_is iv_X8_is (k_43 hK) (C := RX8) (T := TX8) (N := 45) rfl rfl (Nat.lt_of_succ_le (Nat.le_of_ble_eq_true rfl)) rfl rfl (Nat.le_of_ble_eq_true rfl) ⟨Nat.le_of_ble_eq_true rfl, Nat.le_of_ble_eq_true rfl⟩ rfl (fun q_3 => ?_)
    refine w_ifne (q := 20) (tgt := 22) hc dX8_deep_17 rfl rfl ?_ ?_
    · refine w_iconst (q := 21) hc dX8_deep_20 ci_m1 rfl ?_
      exact w_ireturn (v := (-1)) hc hq dX8_deep_21 rfl rfl rfl
    · refine w_aload_n (q := 23) (i := 0) (j := 0) hc dX8_deep_22 rfl rfl rfl ?_
      refine w_callV_Wv (q := 26) (st := []) (args := []) (p := 43) hc (m_X8_laysDepths hK hR) dX8_deep_23 ml_X8_302 cf_X8_laysDepths iv_X8_laysDepths (k_43 hK) (C := RX8) (T := TX8) (N := 45) rfl rfl (Nat.lt_of_succ_le (Nat.le_of_ble_eq_true rfl)) rfl rfl (Nat.le_of_ble_eq_true rfl) ⟨Nat.le_of_ble_eq_true rfl, Nat.le_of_ble_eq_true rfl⟩ rfl (fun q_4 => ?_)
      refine w_iconst (q := 27) hc dX8_deep_26 ci_0 rfl ?_
      refine w_istore_n (q := 28) (i := 2) (lv' := [(2, .int 0), (0, .ref 43), (1, .int a1)]) hc dX8_deep_27 rfl (hN 2 rfl) rfl rfl ?_
      refine w_iconst (q := 29) hc dX8_deep_28 ci_0 rfl ?_
      refine w_istore_n (q := 30) (i := 3) (lv' := [(3, .int 0), (2, .int 0), (0, .ref 43), (1, .int a1)]) hc dX8_deep_29 rfl (hN 3 rfl) rfl rfl ?_
      refine w_sub [2, 3, 1, 0] rfl ?_
      refine wl_X8_deep_30 a1 q_4.1 q_4.2 hc hq hK hR hn _ ?_ FU 0 0
      intro v2_12
      refine w_iload_n (q := 63) (i := 2) (j := 1) hc dX8_deep_62 rfl rfl rfl ?_
      refine w_ifne (q := 66) (tgt := 74) hc dX8_deep_63 rfl rfl ?_ ?_
      · refine w_aload_n (q := 67) (i := 0) (j := 0) hc dX8_deep_66 rfl rfl rfl ?_
        refine w_iconst (q := 68) hc dX8_deep_67 ci_5 rfl ?_
        refine w_callV_Wi (q := 71) (st := []) (args := [.int 5]) (p := 43) hc (m_X8_refuse hK hR) dX8_deep_68 ml_X8_266 cf_X8_refuse iv_X8_refuse (k_43 hK) (C := RX8) (T := TX8) (N := 45) rfl rfl (Nat.lt_of_succ_le (Nat.le_of_ble_eq_true rfl)) rfl rfl (Nat.le_of_ble_eq_true rfl) ⟨Nat.le_of_ble_eq_true rfl, Nat.le_of_ble_eq_true rfl⟩ rfl (fun q_13 => ?_)
        refine w_goto (tgt := 75) hc dX8_deep_71 rfl ?_
        exact w_ireturn (v := q_13.1) hc hq dX8_deep_75 rfl rfl rfl
      · refine w_iload_n (q := 75) (i := 2) (j := 1) hc dX8_deep_74 rfl rfl rfl ?_
        exact w_ireturn (v := v2_12) hc hq dX8_deep_75 rfl rfl rfl
  · intro j11_253 hj11_253
    refine w_iflt (q := 6) (tgt := 10) hc dX8_deep_3 rfl rfl ?_ ?_
    · refine w_iconst (q := 11) hc dX8_deep_10 ci_1 rfl ?_
      exact hj11_253 true
    · refine w_iconst (q := 7) hc dX8_deep_6 ci_0 rfl ?_
      refine w_goto (tgt := 11) hc dX8_deep_7 rfl ?_
      exact hj11_253 false
set_option maxRecDepth 100000 in
set_option maxHeartbeats 4000000 in
theorem wl_X8_deepest_39 {G : GT (Int32 × Mm)} {rm : Nat} (v1_7 : Int32) (v2_8 : Int32) (I : MI) (L : ML) (hc : Cx G cX8_deepest yX8_deepest.cls (some .int) 11 249) (hq : RetQ G anIW meW) (hK : gK G = lK rm) (hR : gR G = lR rm) (hn : gnL G = 4) (k0 : Int32 → Option (Int32 × Mm)) (hk0 : ∀ (v3_11 : Int32), WW G 55 [(1, .int v1_7), (2, .int v2_8), (3, .int v3_11)] [] I L (k0 v3_11)) : ∀ (n : Nat) (v3_9 : Int32), WW G 39 [(0, .ref 43), (1, .int v1_7), (2, .int v2_8), (3, .int v3_9)] [] I L (f_X8_deepest_39 v1_7 v2_8 I L k0 n v3_9) := by
  have hN : ∀ i, Nat.blt i 4 = true → i < gnL G := fun i h => hn ▸ Nat.blt_eq.mp h
  intro n
  induction n with
  | zero => intros; exact w_none _ _ _
  | succ n ih =>
    intros v3_9
    rw [f_X8_deepest_39]
    refine w_aload_n (q := 40) (i := 0) (j := 0) hc dX8_deepest_39 rfl rfl rfl ?_
    refine gf_X8_63 (q := 43) hc dX8_deepest_40 (k_43 hK) (r_43_22 hR) rfl ?_
    refine w_iload_n (q := 44) (i := 3) (j := 3) hc dX8_deepest_43 rfl rfl rfl ?_
    refine w_iald (q := 45) hc dX8_deepest_44 (k_61 hK) rfl ?_
    refine w_iload_n (q := 46) (i := 2) (j := 2) hc dX8_deepest_45 rfl rfl rfl ?_
    refine w_icmpeq (q := 49) (tgt := 55) hc dX8_deepest_46 rfl rfl ?_ ?_
    · refine w_sub [1, 2, 3] rfl ?_
      exact hk0 v3_9
    · refine w_iincB (q := 52) (i := 3) (j := 3) (lv' := fun v3_10 => [(3, .int v3_10), (0, .ref 43), (1, .int v1_7), (2, .int v2_8)]) hc dX8_deepest_49 rfl ci_1 (hN 3 rfl) (fun _ => rfl) rfl (fun v3_10 => ?_)
      refine w_goto (tgt := 39) hc dX8_deepest_52 rfl ?_
      refine w_sub [1, 2, 3, 0] rfl ?_
      exact ih v3_10
set_option maxRecDepth 100000 in
set_option maxHeartbeats 4000000 in
theorem m_X8_deepest {l : Launch} {K : KT} {R : MR} {rm : Nat} {a1 : Int32} {I : MI} {L : ML} (hK0 : K = lK rm) (hR0 : R = lR rm) : MFg l yX8_deepest cX8_deepest 4 (some .int) 11 249 [.ref 43, .int a1] K R I L anIW meW (f_X8_deepest a1 I L) := by
  refine mf_of (plainFor_of_name (by decide)) (Nat.le_of_ble_eq_true rfl) ?_
  intro G hc _ hK1 hR1 hn hq
  have hK := hK1.trans hK0
  have hR := hR1.trans hR0
  have hN : ∀ i, Nat.blt i 4 = true → i < gnL G := fun i h => hn ▸ Nat.blt_eq.mp h
  unfold f_X8_deepest
  show WW G 0 [(0, .ref 43), (1, .int a1)] [] I L _
  refine w_aload_n (q := 1) (i := 0) (j := 0) hc dX8_deepest_0 rfl rfl rfl ?_
  refine w_aload_n (q := 2) (i := 0) (j := 0) hc dX8_deepest_1 rfl rfl rfl ?_
  refine w_iload_n (q := 3) (i := 1) (j := 1) hc dX8_deepest_2 rfl rfl rfl ?_
  refine w_i2l (q := 4) hc dX8_deepest_3  rfl ?_
  refine w_lconst (q := 5) hc dX8_deepest_4 cl_0 rfl ?_
  refine w_lconst (q := 6) hc dX8_deepest_5 cl_1 rfl ?_
  refine w_callS_Rz (q := 9) (st := [.ref 43, .ref 43]) (args := [.long (Int32.toInt64 a1), .long 0, .long 1]) hc (m_X8_isIn hK hR) dX8_deepest_6 ml_X8_114 cf_X8_isIn st_X8_isIn rfl rfl (Nat.le_of_ble_eq_true rfl) ⟨Nat.le_of_ble_eq_true rfl, Nat.le_of_ble_eq_true rfl⟩ rfl (fun q_1 => ?_)
  refine w_join (fun j17_256 : Bool → Option (Int32 × Mm) => ∀ (s0_2 : Bool), WW G 17 [(0, .ref 43), (1, .int a1)] [.int (b2i s0_2), .ref 43, .ref 43] I L (j17_256 s0_2)) ?_ ?_
  · intro s0_2
    refine w_callV_Wi (q := 20) (st := [.ref 43]) (args := [.int (b2i s0_2)]) (p := 43) hc (m_X8_whySmall hK hR) dX8_deepest_17 ml_X8_299 cf_X8_whySmall iv_X8_whySmall (k_43 hK) (C := RX8) (T := TX8) (N := 45) rfl rfl (Nat.lt_of_succ_le (Nat.le_of_ble_eq_true rfl)) rfl rfl (Nat.le_of_ble_eq_true rfl) ⟨Nat.le_of_ble_eq_true rfl, Nat.le_of_ble_eq_true rfl⟩ rfl (fun q_3 => ?_)
    refine w_callV_Wz (q := 23) (st := []) (args := [.int q_3.1]) (p := 43) hc (m_X8_is hK hR) dX8_deepest_20 ml_X8_194 cf_X8_is iv_X8_is (k_43 hK) (C := RX8) (T := TX8) (N := 45) rfl rfl (Nat.lt_of_succ_le (Nat.le_of_ble_eq_true rfl)) rfl rfl (Nat.le_of_ble_eq_true rfl) ⟨Nat.le_of_ble_eq_true rfl, Nat.le_of_ble_eq_true rfl⟩ rfl (fun q_4 => ?_)
    refine w_ifne (q := 26) (tgt := 28) hc dX8_deepest_23 rfl rfl ?_ ?_
    · refine w_iconst (q := 27) hc dX8_deepest_26 ci_m1 rfl ?_
      exact w_ireturn (v := (-1)) hc hq dX8_deepest_27 rfl rfl rfl
    · refine w_aload_n (q := 29) (i := 0) (j := 0) hc dX8_deepest_28 rfl rfl rfl ?_
      refine w_callV_Wv (q := 32) (st := []) (args := []) (p := 43) hc (m_X8_laysDepths hK hR) dX8_deepest_29 ml_X8_302 cf_X8_laysDepths iv_X8_laysDepths (k_43 hK) (C := RX8) (T := TX8) (N := 45) rfl rfl (Nat.lt_of_succ_le (Nat.le_of_ble_eq_true rfl)) rfl rfl (Nat.le_of_ble_eq_true rfl) ⟨Nat.le_of_ble_eq_true rfl, Nat.le_of_ble_eq_true rfl⟩ rfl (fun q_5 => ?_)
      refine w_aload_n (q := 33) (i := 0) (j := 0) hc dX8_deepest_32 rfl rfl rfl ?_
      refine w_callV_Ri (q := 36) (st := []) (args := []) (p := 43) hc (m_X8_deepMost hK hR) dX8_deepest_33 ml_X8_308 cf_X8_deepMost iv_X8_deepMost (k_43 hK) (C := RX8) (T := TX8) (N := 45) rfl rfl (Nat.lt_of_succ_le (Nat.le_of_ble_eq_true rfl)) rfl rfl (Nat.le_of_ble_eq_true rfl) ⟨Nat.le_of_ble_eq_true rfl, Nat.le_of_ble_eq_true rfl⟩ rfl (fun q_6 => ?_)
      refine w_istore_n (q := 37) (i := 2) (lv' := [(2, .int q_6), (0, .ref 43), (1, .int a1)]) hc dX8_deepest_36 rfl (hN 2 rfl) rfl rfl ?_
      refine w_iconst (q := 38) hc dX8_deepest_37 ci_0 rfl ?_
      refine w_istore_n (q := 39) (i := 3) (lv' := [(3, .int 0), (2, .int q_6), (0, .ref 43), (1, .int a1)]) hc dX8_deepest_38 rfl (hN 3 rfl) rfl rfl ?_
      refine w_sub [2, 3, 1, 0] rfl ?_
      refine wl_X8_deepest_39 a1 q_6 q_5.1 q_5.2 hc hq hK hR hn _ ?_ FU 0
      intro v3_11
      refine w_iload_n (q := 56) (i := 1) (j := 0) hc dX8_deepest_55 rfl rfl rfl ?_
      refine w_ifne (q := 59) (tgt := 63) hc dX8_deepest_56 rfl rfl ?_ ?_
      · refine w_iload_n (q := 60) (i := 2) (j := 1) hc dX8_deepest_59 rfl rfl rfl ?_
        refine w_goto (tgt := 64) hc dX8_deepest_60 rfl ?_
        exact w_ireturn (v := q_6) hc hq dX8_deepest_64 rfl rfl rfl
      · refine w_iload_n (q := 64) (i := 3) (j := 2) hc dX8_deepest_63 rfl rfl rfl ?_
        exact w_ireturn (v := v3_11) hc hq dX8_deepest_64 rfl rfl rfl
  · intro j17_256 hj17_256
    refine w_ifeq (q := 12) (tgt := 16) hc dX8_deepest_9 rfl rfl ?_ ?_
    · refine w_iconst (q := 17) hc dX8_deepest_16 ci_1 rfl ?_
      exact hj17_256 true
    · refine w_iconst (q := 13) hc dX8_deepest_12 ci_0 rfl ?_
      refine w_goto (tgt := 17) hc dX8_deepest_13 rfl ?_
      exact hj17_256 false
set_option maxRecDepth 100000 in
set_option maxHeartbeats 4000000 in
theorem wl_X8_mean_36 {G : GT (Int32 × Mm)} {rm : Nat} (v1_6 : Int32) (I : MI) (L : ML) (hc : Cx G cX8_mean yX8_mean.cls (some .int) 11 249) (hq : RetQ G anIW meW) (hK : gK G = lK rm) (hR : gR G = lR rm) (hn : gnL G = 4) (k0 : Int32 → Option (Int32 × Mm)) (hk0 : ∀ (v2_11 : Int32), WW G 59 [(0, .ref 43), (1, .int v1_6), (2, .int v2_11)] [] I L (k0 v2_11)) : ∀ (n : Nat) (v2_7 : Int32) (v3_8 : Int32), WW G 36 [(0, .ref 43), (1, .int v1_6), (2, .int v2_7), (3, .int v3_8)] [] I L (f_X8_mean_36 v1_6 I L k0 n v2_7 v3_8) := by
  have hN : ∀ i, Nat.blt i 4 = true → i < gnL G := fun i h => hn ▸ Nat.blt_eq.mp h
  intro n
  induction n with
  | zero => intros; exact w_none _ _ _
  | succ n ih =>
    intros v2_7 v3_8
    rw [f_X8_mean_36]
    refine w_iload_n (q := 37) (i := 3) (j := 3) hc dX8_mean_36 rfl rfl rfl ?_
    refine w_aload_n (q := 38) (i := 0) (j := 0) hc dX8_mean_37 rfl rfl rfl ?_
    refine gf_X8_290 (q := 41) hc dX8_mean_38 (k_43 hK) rfl ?_
    refine w_icmpge (q := 44) (tgt := 59) hc dX8_mean_41 rfl rfl ?_ ?_
    · refine w_sub [0, 1, 2] rfl ?_
      exact hk0 v2_7
    · refine w_iload_n (q := 45) (i := 2) (j := 2) hc dX8_mean_44 rfl rfl rfl ?_
      refine w_aload_n (q := 46) (i := 0) (j := 0) hc dX8_mean_45 rfl rfl rfl ?_
      refine gf_X8_63 (q := 49) hc dX8_mean_46 (k_43 hK) (r_43_22 hR) rfl ?_
      refine w_iload_n (q := 50) (i := 3) (j := 3) hc dX8_mean_49 rfl rfl rfl ?_
      refine w_iald (q := 51) hc dX8_mean_50 (k_61 hK) rfl ?_
      refine w_iadd (q := 52) hc dX8_mean_51  rfl ?_
      refine w_istore_nB (q := 53) (i := 2) (lv' := fun v2_9 => [(2, .int v2_9), (0, .ref 43), (1, .int v1_6), (3, .int v3_8)]) hc dX8_mean_52 rfl (hN 2 rfl) (fun _ => rfl) rfl (fun v2_9 => ?_)
      refine w_iincB (q := 56) (i := 3) (j := 3) (lv' := fun v3_10 => [(3, .int v3_10), (2, .int v2_9), (0, .ref 43), (1, .int v1_6)]) hc dX8_mean_53 rfl ci_1 (hN 3 rfl) (fun _ => rfl) rfl (fun v3_10 => ?_)
      refine w_goto (tgt := 36) hc dX8_mean_56 rfl ?_
      refine w_sub [2, 3, 1, 0] rfl ?_
      exact ih v2_9 v3_10
set_option maxRecDepth 100000 in
set_option maxHeartbeats 4000000 in
theorem m_X8_mean {l : Launch} {K : KT} {R : MR} {rm : Nat} {a1 : Int32} {I : MI} {L : ML} (hK0 : K = lK rm) (hR0 : R = lR rm) : MFg l yX8_mean cX8_mean 4 (some .int) 11 249 [.ref 43, .int a1] K R I L anIW meW (f_X8_mean a1 I L) := by
  refine mf_of (plainFor_of_name (by decide)) (Nat.le_of_ble_eq_true rfl) ?_
  intro G hc _ hK1 hR1 hn hq
  have hK := hK1.trans hK0
  have hR := hR1.trans hR0
  have hN : ∀ i, Nat.blt i 4 = true → i < gnL G := fun i h => hn ▸ Nat.blt_eq.mp h
  unfold f_X8_mean
  show WW G 0 [(0, .ref 43), (1, .int a1)] [] I L _
  refine w_aload_n (q := 1) (i := 0) (j := 0) hc dX8_mean_0 rfl rfl rfl ?_
  refine w_aload_n (q := 2) (i := 0) (j := 0) hc dX8_mean_1 rfl rfl rfl ?_
  refine w_iload_n (q := 3) (i := 1) (j := 1) hc dX8_mean_2 rfl rfl rfl ?_
  refine w_i2l (q := 4) hc dX8_mean_3  rfl ?_
  refine w_lconst (q := 5) hc dX8_mean_4 cl_0 rfl ?_
  refine w_lconst (q := 6) hc dX8_mean_5 cl_1 rfl ?_
  refine w_callS_Rz (q := 9) (st := [.ref 43, .ref 43]) (args := [.long (Int32.toInt64 a1), .long 0, .long 1]) hc (m_X8_isIn hK hR) dX8_mean_6 ml_X8_114 cf_X8_isIn st_X8_isIn rfl rfl (Nat.le_of_ble_eq_true rfl) ⟨Nat.le_of_ble_eq_true rfl, Nat.le_of_ble_eq_true rfl⟩ rfl (fun q_1 => ?_)
  refine w_join (fun j17_259 : Bool → Option (Int32 × Mm) => ∀ (s0_2 : Bool), WW G 17 [(0, .ref 43), (1, .int a1)] [.int (b2i s0_2), .ref 43, .ref 43] I L (j17_259 s0_2)) ?_ ?_
  · intro s0_2
    refine w_callV_Wi (q := 20) (st := [.ref 43]) (args := [.int (b2i s0_2)]) (p := 43) hc (m_X8_whySmall hK hR) dX8_mean_17 ml_X8_299 cf_X8_whySmall iv_X8_whySmall (k_43 hK) (C := RX8) (T := TX8) (N := 45) rfl rfl (Nat.lt_of_succ_le (Nat.le_of_ble_eq_true rfl)) rfl rfl (Nat.le_of_ble_eq_true rfl) ⟨Nat.le_of_ble_eq_true rfl, Nat.le_of_ble_eq_true rfl⟩ rfl (fun q_3 => ?_)
    refine w_callV_Wz (q := 23) (st := []) (args := [.int q_3.1]) (p := 43) hc (m_X8_is hK hR) dX8_mean_20 ml_X8_194 cf_X8_is iv_X8_is (k_43 hK) (C := RX8) (T := TX8) (N := 45) rfl rfl (Nat.lt_of_succ_le (Nat.le_of_ble_eq_true rfl)) rfl rfl (Nat.le_of_ble_eq_true rfl) ⟨Nat.le_of_ble_eq_true rfl, Nat.le_of_ble_eq_true rfl⟩ rfl (fun q_4 => ?_)
    refine w_ifne (q := 26) (tgt := 28) hc dX8_mean_23 rfl rfl ?_ ?_
    · refine w_iconst (q := 27) hc dX8_mean_26 ci_m1 rfl ?_
      exact w_ireturn (v := (-1)) hc hq dX8_mean_27 rfl rfl rfl
    · refine w_aload_n (q := 29) (i := 0) (j := 0) hc dX8_mean_28 rfl rfl rfl ?_
      refine w_callV_Wv (q := 32) (st := []) (args := []) (p := 43) hc (m_X8_laysDepths hK hR) dX8_mean_29 ml_X8_302 cf_X8_laysDepths iv_X8_laysDepths (k_43 hK) (C := RX8) (T := TX8) (N := 45) rfl rfl (Nat.lt_of_succ_le (Nat.le_of_ble_eq_true rfl)) rfl rfl (Nat.le_of_ble_eq_true rfl) ⟨Nat.le_of_ble_eq_true rfl, Nat.le_of_ble_eq_true rfl⟩ rfl (fun q_5 => ?_)
      refine w_iconst (q := 33) hc dX8_mean_32 ci_0 rfl ?_
      refine w_istore_n (q := 34) (i := 2) (lv' := [(2, .int 0), (0, .ref 43), (1, .int a1)]) hc dX8_mean_33 rfl (hN 2 rfl) rfl rfl ?_
      refine w_iconst (q := 35) hc dX8_mean_34 ci_0 rfl ?_
      refine w_istore_n (q := 36) (i := 3) (lv' := [(3, .int 0), (2, .int 0), (0, .ref 43), (1, .int a1)]) hc dX8_mean_35 rfl (hN 3 rfl) rfl rfl ?_
      refine w_sub [2, 3, 1, 0] rfl ?_
      refine wl_X8_mean_36 a1 q_5.1 q_5.2 hc hq hK hR hn _ ?_ FU 0 0
      intro v2_11
      refine w_iload_n (q := 60) (i := 1) (j := 1) hc dX8_mean_59 rfl rfl rfl ?_
      refine w_ifne (q := 63) (tgt := 67) hc dX8_mean_60 rfl rfl ?_ ?_
      · refine w_iload_n (q := 64) (i := 2) (j := 2) hc dX8_mean_63 rfl rfl rfl ?_
        refine w_goto (tgt := 71) hc dX8_mean_64 rfl ?_
        refine w_aload_n (q := 72) (i := 0) (j := 0) hc dX8_mean_71 rfl rfl rfl ?_
        refine gf_X8_290 (q := 75) hc dX8_mean_72 (k_43 hK) rfl ?_
        refine w_iload_n (q := 76) (i := 2) (j := 2) hc dX8_mean_75 rfl rfl rfl ?_
        refine w_callS_Ri (q := 79) (st := [.int v2_11]) (args := [.int (q_5.1 43 24), .int v2_11]) hc (m_X8_common hK hR) dX8_mean_76 ml_X8_240 cf_X8_common st_X8_common rfl rfl (Nat.le_of_ble_eq_true rfl) ⟨Nat.le_of_ble_eq_true rfl, Nat.le_of_ble_eq_true rfl⟩ rfl (fun q_13 => ?_)
        refine w_idiv (q := 80) hc dX8_mean_79  rfl ?_
        exact w_ireturn (v := (v2_11 / q_13)) hc hq dX8_mean_80 rfl rfl rfl
      · refine w_aload_n (q := 68) (i := 0) (j := 0) hc dX8_mean_67 rfl rfl rfl ?_
        refine gf_X8_290 (q := 71) hc dX8_mean_68 (k_43 hK) rfl ?_
        refine w_aload_n (q := 72) (i := 0) (j := 0) hc dX8_mean_71 rfl rfl rfl ?_
        refine gf_X8_290 (q := 75) hc dX8_mean_72 (k_43 hK) rfl ?_
        refine w_iload_n (q := 76) (i := 2) (j := 2) hc dX8_mean_75 rfl rfl rfl ?_
        refine w_callS_Ri (q := 79) (st := [.int (q_5.1 43 24)]) (args := [.int (q_5.1 43 24), .int v2_11]) hc (m_X8_common hK hR) dX8_mean_76 ml_X8_240 cf_X8_common st_X8_common rfl rfl (Nat.le_of_ble_eq_true rfl) ⟨Nat.le_of_ble_eq_true rfl, Nat.le_of_ble_eq_true rfl⟩ rfl (fun q_12 => ?_)
        refine w_idiv (q := 80) hc dX8_mean_79  rfl ?_
        exact w_ireturn (v := ((q_5.1 43 24) / q_12)) hc hq dX8_mean_80 rfl rfl rfl
  · intro j17_259 hj17_259
    refine w_ifeq (q := 12) (tgt := 16) hc dX8_mean_9 rfl rfl ?_ ?_
    · refine w_iconst (q := 17) hc dX8_mean_16 ci_1 rfl ?_
      exact hj17_259 true
    · refine w_iconst (q := 13) hc dX8_mean_12 ci_0 rfl ?_
      refine w_goto (tgt := 17) hc dX8_mean_13 rfl ?_
      exact hj17_259 false
set_option maxRecDepth 100000 in
set_option maxHeartbeats 4000000 in
theorem wl_X8_nearer_63 {G : GT (Int32 × Mm)} {rm : Nat} (v1_8 : Int32) (hc : Cx G cX8_nearer yX8_nearer.cls (some .int) 11 249) (hq : RetQ G anIW meW) (hK : gK G = lK rm) (hR : gR G = lR rm) (hn : gnL G = 4) : ∀ (n : Nat) (v2_9 : Int32) (v3_10 : Int32) (I_11 : MI) (L_12 : ML), WW G 63 [(0, .ref 43), (1, .int v1_8), (2, .int v2_9), (3, .int v3_10)] [] I_11 L_12 (f_X8_nearer_63 v1_8 n v2_9 v3_10 I_11 L_12) := by
  have hN : ∀ i, Nat.blt i 4 = true → i < gnL G := fun i h => hn ▸ Nat.blt_eq.mp h
  intro n
  induction n with
  | zero => intros; exact w_none _ _ _
  | succ n ih =>
    intros v2_9 v3_10 I_11 L_12
    rw [f_X8_nearer_63]
    refine w_iload_n (q := 64) (i := 3) (j := 3) hc dX8_nearer_63 rfl rfl rfl ?_
    refine w_iconst (q := 65) hc dX8_nearer_64 ci_2 rfl ?_
    refine w_aload_n (q := 66) (i := 0) (j := 0) hc dX8_nearer_65 rfl rfl rfl ?_
    refine w_callV_Ri (q := 69) (st := [.int 2, .int v3_10]) (args := []) (p := 43) hc (m_X8_moves hK hR) dX8_nearer_66 ml_X8_110 cf_X8_moves iv_X8_moves (k_43 hK) (C := RX8) (T := TX8) (N := 45) rfl rfl (Nat.lt_of_succ_le (Nat.le_of_ble_eq_true rfl)) rfl rfl (Nat.le_of_ble_eq_true rfl) ⟨Nat.le_of_ble_eq_true rfl, Nat.le_of_ble_eq_true rfl⟩ rfl (fun q_13 => ?_)
    refine w_imul (q := 70) hc dX8_nearer_69  rfl ?_
    refine w_icmpge (q := 73) (tgt := 130) hc dX8_nearer_70 rfl rfl ?_ ?_
    · refine w_iload_n (q := 131) (i := 2) (j := 2) hc dX8_nearer_130 rfl rfl rfl ?_
      exact w_ireturn (v := v2_9) hc hq dX8_nearer_131 rfl rfl rfl
    · refine w_aload_n (q := 74) (i := 0) (j := 0) hc dX8_nearer_73 rfl rfl rfl ?_
      refine w_iload_n (q := 75) (i := 3) (j := 3) hc dX8_nearer_74 rfl rfl rfl ?_
      refine w_aload_n (q := 76) (i := 0) (j := 0) hc dX8_nearer_75 rfl rfl rfl ?_
      refine gf_X8_25 (q := 79) hc dX8_nearer_76 (k_43 hK) (r_43_9 hR) rfl ?_
      refine w_callV_Wv (q := 82) (st := []) (args := [.int v3_10, .ref 49]) (p := 43) hc (m_X8_laysStep hK hR (kB hK (k_49 hK))) dX8_nearer_79 ml_X8_210 cf_X8_laysStep iv_X8_laysStep (k_43 hK) (C := RX8) (T := TX8) (N := 45) rfl rfl (Nat.lt_of_succ_le (Nat.le_of_ble_eq_true rfl)) rfl rfl (Nat.le_of_ble_eq_true rfl) ⟨Nat.le_of_ble_eq_true rfl, Nat.le_of_ble_eq_true rfl⟩ rfl (fun q_14 => ?_)
      refine w_aload_n (q := 83) (i := 0) (j := 0) hc dX8_nearer_82 rfl rfl rfl ?_
      refine gf_X8_19 (q := 86) hc dX8_nearer_83 (k_43 hK) (r_43_7 hR) rfl ?_
      refine w_aload_n (q := 87) (i := 0) (j := 0) hc dX8_nearer_86 rfl rfl rfl ?_
      refine gf_X8_25 (q := 90) hc dX8_nearer_87 (k_43 hK) (r_43_9 hR) rfl ?_
      refine w_aload_n (q := 91) (i := 0) (j := 0) hc dX8_nearer_90 rfl rfl rfl ?_
      refine gf_X8_22 (q := 94) hc dX8_nearer_91 (k_43 hK) (r_43_8 hR) rfl ?_
      refine w_callS_Wv (q := 97) (st := []) (args := [.ref 47, .ref 49, .ref 48]) hc (m_X8_makes hK hR (kB hK (k_47 hK)) (kB hK (k_49 hK)) (kB hK (k_48 hK))) dX8_nearer_94 ml_X8_138 cf_X8_makes st_X8_makes rfl rfl (Nat.le_of_ble_eq_true rfl) ⟨Nat.le_of_ble_eq_true rfl, Nat.le_of_ble_eq_true rfl⟩ rfl (fun q_15 => ?_)
      refine w_iload_n (q := 98) (i := 2) (j := 2) hc dX8_nearer_97 rfl rfl rfl ?_
      refine w_aload_n (q := 99) (i := 0) (j := 0) hc dX8_nearer_98 rfl rfl rfl ?_
      refine gf_X8_63 (q := 102) hc dX8_nearer_99 (k_43 hK) (r_43_22 hR) rfl ?_
      refine w_aload_n (q := 103) (i := 0) (j := 0) hc dX8_nearer_102 rfl rfl rfl ?_
      refine w_aload_n (q := 104) (i := 0) (j := 0) hc dX8_nearer_103 rfl rfl rfl ?_
      refine gf_X8_22 (q := 107) hc dX8_nearer_104 (k_43 hK) (r_43_8 hR) rfl ?_
      refine w_callV_Wi (q := 110) (st := [.ref 61, .int v2_9]) (args := [.ref 48]) (p := 43) hc (m_X8_placeOf hK hR (kB hK (k_48 hK))) dX8_nearer_107 ml_X8_284 cf_X8_placeOf iv_X8_placeOf (k_43 hK) (C := RX8) (T := TX8) (N := 45) rfl rfl (Nat.lt_of_succ_le (Nat.le_of_ble_eq_true rfl)) rfl rfl (Nat.le_of_ble_eq_true rfl) ⟨Nat.le_of_ble_eq_true rfl, Nat.le_of_ble_eq_true rfl⟩ rfl (fun q_16 => ?_)
      refine w_iald (q := 111) hc dX8_nearer_110 (k_61 hK) rfl ?_
      refine w_iload_n (q := 112) (i := 1) (j := 1) hc dX8_nearer_111 rfl rfl rfl ?_
      refine w_icmpge (q := 115) (tgt := 121) hc dX8_nearer_112 rfl rfl ?_ ?_
      · refine w_iconst (q := 122) hc dX8_nearer_121 ci_0 rfl ?_
        refine w_ior (q := 123) hc dX8_nearer_122  rfl ?_
        refine w_istore_nB (q := 124) (i := 2) (lv' := fun v2_17 => [(2, .int v2_17), (0, .ref 43), (1, .int v1_8), (3, .int v3_10)]) hc dX8_nearer_123 rfl (hN 2 rfl) (fun _ => rfl) rfl (fun v2_17 => ?_)
        refine w_iincB (q := 127) (i := 3) (j := 3) (lv' := fun v3_18 => [(3, .int v3_18), (2, .int v2_17), (0, .ref 43), (1, .int v1_8)]) hc dX8_nearer_124 rfl ci_1 (hN 3 rfl) (fun _ => rfl) rfl (fun v3_18 => ?_)
        refine w_goto (tgt := 63) hc dX8_nearer_127 rfl ?_
        refine w_sub [2, 3, 1, 0] rfl ?_
        exact ih v2_17 v3_18 q_16.2.1 q_16.2.2
      · refine w_iconst (q := 116) hc dX8_nearer_115 ci_1 rfl ?_
        refine w_iload_n (q := 117) (i := 3) (j := 3) hc dX8_nearer_116 rfl rfl rfl ?_
        refine w_ishl (q := 118) hc dX8_nearer_117  rfl ?_
        refine w_goto (tgt := 122) hc dX8_nearer_118 rfl ?_
        refine w_ior (q := 123) hc dX8_nearer_122  rfl ?_
        refine w_istore_nB (q := 124) (i := 2) (lv' := fun v2_19 => [(2, .int v2_19), (0, .ref 43), (1, .int v1_8), (3, .int v3_10)]) hc dX8_nearer_123 rfl (hN 2 rfl) (fun _ => rfl) rfl (fun v2_19 => ?_)
        refine w_iincB (q := 127) (i := 3) (j := 3) (lv' := fun v3_20 => [(3, .int v3_20), (2, .int v2_19), (0, .ref 43), (1, .int v1_8)]) hc dX8_nearer_124 rfl ci_1 (hN 3 rfl) (fun _ => rfl) rfl (fun v3_20 => ?_)
        refine w_goto (tgt := 63) hc dX8_nearer_127 rfl ?_
        refine w_sub [2, 3, 1, 0] rfl ?_
        exact ih v2_19 v3_20 q_16.2.1 q_16.2.2
set_option maxRecDepth 100000 in
set_option maxHeartbeats 4000000 in
theorem m_X8_nearer {l : Launch} {K : KT} {R : MR} {rm : Nat} {I : MI} {L : ML} (hK0 : K = lK rm) (hR0 : R = lR rm) : MFg l yX8_nearer cX8_nearer 4 (some .int) 11 249 [.ref 43] K R I L anIW meW (f_X8_nearer I L) := by
  refine mf_of (plainFor_of_name (by decide)) (Nat.le_of_ble_eq_true rfl) ?_
  intro G hc _ hK1 hR1 hn hq
  have hK := hK1.trans hK0
  have hR := hR1.trans hR0
  have hN : ∀ i, Nat.blt i 4 = true → i < gnL G := fun i h => hn ▸ Nat.blt_eq.mp h
  unfold f_X8_nearer
  show WW G 0 [(0, .ref 43)] [] I L _
  refine w_aload_n (q := 1) (i := 0) (j := 0) hc dX8_nearer_0 rfl rfl rfl ?_
  refine w_aload_n (q := 2) (i := 0) (j := 0) hc dX8_nearer_1 rfl rfl rfl ?_
  refine w_iconst (q := 3) hc dX8_nearer_2 ci_0 rfl ?_
  refine w_callV_Wi (q := 6) (st := [.ref 43]) (args := [.int 0]) (p := 43) hc (m_X8_whySmall hK hR) dX8_nearer_3 ml_X8_299 cf_X8_whySmall iv_X8_whySmall (k_43 hK) (C := RX8) (T := TX8) (N := 45) rfl rfl (Nat.lt_of_succ_le (Nat.le_of_ble_eq_true rfl)) rfl rfl (Nat.le_of_ble_eq_true rfl) ⟨Nat.le_of_ble_eq_true rfl, Nat.le_of_ble_eq_true rfl⟩ rfl (fun q_1 => ?_)
  refine w_callV_Wz (q := 9) (st := []) (args := [.int q_1.1]) (p := 43) hc (m_X8_is hK hR) dX8_nearer_6 ml_X8_194 cf_X8_is iv_X8_is (k_43 hK) (C := RX8) (T := TX8) (N := 45) rfl rfl (Nat.lt_of_succ_le (Nat.le_of_ble_eq_true rfl)) rfl rfl (Nat.le_of_ble_eq_true rfl) ⟨Nat.le_of_ble_eq_true rfl, Nat.le_of_ble_eq_true rfl⟩ rfl (fun q_2 => ?_)
  refine w_ifne (q := 12) (tgt := 14) hc dX8_nearer_9 rfl rfl ?_ ?_
  · refine w_iconst (q := 13) hc dX8_nearer_12 ci_m1 rfl ?_
    exact w_ireturn (v := (-1)) hc hq dX8_nearer_13 rfl rfl rfl
  · refine w_aload_n (q := 15) (i := 0) (j := 0) hc dX8_nearer_14 rfl rfl rfl ?_
    refine w_aload_n (q := 16) (i := 0) (j := 0) hc dX8_nearer_15 rfl rfl rfl ?_
    refine gf_X8_19 (q := 19) hc dX8_nearer_16 (k_43 hK) (r_43_7 hR) rfl ?_
    refine w_callV_Wv (q := 22) (st := []) (args := [.ref 47]) (p := 43) hc (m_X8_laysStand hK hR (kB hK (k_47 hK))) dX8_nearer_19 ml_X8_198 cf_X8_laysStand iv_X8_laysStand (k_43 hK) (C := RX8) (T := TX8) (N := 45) rfl rfl (Nat.lt_of_succ_le (Nat.le_of_ble_eq_true rfl)) rfl rfl (Nat.le_of_ble_eq_true rfl) ⟨Nat.le_of_ble_eq_true rfl, Nat.le_of_ble_eq_true rfl⟩ rfl (fun q_3 => ?_)
    refine w_aload_n (q := 23) (i := 0) (j := 0) hc dX8_nearer_22 rfl rfl rfl ?_
    refine w_iconst (q := 24) hc dX8_nearer_23 ci_0 rfl ?_
    refine w_aload_n (q := 25) (i := 0) (j := 0) hc dX8_nearer_24 rfl rfl rfl ?_
    refine gf_X8_19 (q := 28) hc dX8_nearer_25 (k_43 hK) (r_43_7 hR) rfl ?_
    refine w_callV_Wz (q := 31) (st := []) (args := [.int 0, .ref 47]) (p := 43) hc (m_X8_isMember hK hR (kB hK (k_47 hK))) dX8_nearer_28 ml_X8_275 cf_X8_isMember iv_X8_isMember (k_43 hK) (C := RX8) (T := TX8) (N := 45) rfl rfl (Nat.lt_of_succ_le (Nat.le_of_ble_eq_true rfl)) rfl rfl (Nat.le_of_ble_eq_true rfl) ⟨Nat.le_of_ble_eq_true rfl, Nat.le_of_ble_eq_true rfl⟩ rfl (fun q_4 => ?_)
    refine w_ifne (q := 34) (tgt := 41) hc dX8_nearer_31 rfl rfl ?_ ?_
    · refine w_aload_n (q := 35) (i := 0) (j := 0) hc dX8_nearer_34 rfl rfl rfl ?_
      refine w_bipush (q := 37) hc dX8_nearer_35 cb_6 rfl ?_
      refine w_callV_Wi (q := 40) (st := []) (args := [.int 6]) (p := 43) hc (m_X8_refuse hK hR) dX8_nearer_37 ml_X8_266 cf_X8_refuse iv_X8_refuse (k_43 hK) (C := RX8) (T := TX8) (N := 45) rfl rfl (Nat.lt_of_succ_le (Nat.le_of_ble_eq_true rfl)) rfl rfl (Nat.le_of_ble_eq_true rfl) ⟨Nat.le_of_ble_eq_true rfl, Nat.le_of_ble_eq_true rfl⟩ rfl (fun q_21 => ?_)
      exact w_ireturn (v := q_21.1) hc hq dX8_nearer_40 rfl rfl rfl
    · refine w_aload_n (q := 42) (i := 0) (j := 0) hc dX8_nearer_41 rfl rfl rfl ?_
      refine w_callV_Wv (q := 45) (st := []) (args := []) (p := 43) hc (m_X8_laysDepths hK hR) dX8_nearer_42 ml_X8_302 cf_X8_laysDepths iv_X8_laysDepths (k_43 hK) (C := RX8) (T := TX8) (N := 45) rfl rfl (Nat.lt_of_succ_le (Nat.le_of_ble_eq_true rfl)) rfl rfl (Nat.le_of_ble_eq_true rfl) ⟨Nat.le_of_ble_eq_true rfl, Nat.le_of_ble_eq_true rfl⟩ rfl (fun q_5 => ?_)
      refine w_aload_n (q := 46) (i := 0) (j := 0) hc dX8_nearer_45 rfl rfl rfl ?_
      refine gf_X8_63 (q := 49) hc dX8_nearer_46 (k_43 hK) (r_43_22 hR) rfl ?_
      refine w_aload_n (q := 50) (i := 0) (j := 0) hc dX8_nearer_49 rfl rfl rfl ?_
      refine w_aload_n (q := 51) (i := 0) (j := 0) hc dX8_nearer_50 rfl rfl rfl ?_
      refine gf_X8_19 (q := 54) hc dX8_nearer_51 (k_43 hK) (r_43_7 hR) rfl ?_
      refine w_callV_Wi (q := 57) (st := [.ref 61]) (args := [.ref 47]) (p := 43) hc (m_X8_placeOf hK hR (kB hK (k_47 hK))) dX8_nearer_54 ml_X8_284 cf_X8_placeOf iv_X8_placeOf (k_43 hK) (C := RX8) (T := TX8) (N := 45) rfl rfl (Nat.lt_of_succ_le (Nat.le_of_ble_eq_true rfl)) rfl rfl (Nat.le_of_ble_eq_true rfl) ⟨Nat.le_of_ble_eq_true rfl, Nat.le_of_ble_eq_true rfl⟩ rfl (fun q_6 => ?_)
      refine w_iald (q := 58) hc dX8_nearer_57 (k_61 hK) rfl ?_
      refine w_istore_nB (q := 59) (i := 1) (lv' := fun v1_7 => [(1, .int v1_7), (0, .ref 43)]) hc dX8_nearer_58 rfl (hN 1 rfl) (fun _ => rfl) rfl (fun v1_7 => ?_)
      refine w_iconst (q := 60) hc dX8_nearer_59 ci_0 rfl ?_
      refine w_istore_n (q := 61) (i := 2) (lv' := [(2, .int 0), (1, .int v1_7), (0, .ref 43)]) hc dX8_nearer_60 rfl (hN 2 rfl) rfl rfl ?_
      refine w_iconst (q := 62) hc dX8_nearer_61 ci_0 rfl ?_
      refine w_istore_n (q := 63) (i := 3) (lv' := [(3, .int 0), (2, .int 0), (1, .int v1_7), (0, .ref 43)]) hc dX8_nearer_62 rfl (hN 3 rfl) rfl rfl ?_
      refine w_sub [3, 2, 1, 0] rfl ?_
      exact wl_X8_nearer_63 v1_7 hc hq hK hR hn FU 0 0 q_6.2.1 q_6.2.2
set_option maxRecDepth 100000 in
set_option maxHeartbeats 4000000 in
theorem m_X8_solve {l : Launch} {K : KT} {R : MR} {rm : Nat} {a1 : Int32} {I : MI} {L : ML} (hK0 : K = lK rm) (hR0 : R = lR rm) : MFg l yX8_solve cX8_solve 2 (some .int) 11 249 [.ref 43, .int a1] K R I L anIW meW (f_X8_solve a1 I L) := by
  refine mf_of (plainFor_of_name (by decide)) (Nat.le_of_ble_eq_true rfl) ?_
  intro G hc _ hK1 hR1 hn hq
  have hK := hK1.trans hK0
  have hR := hR1.trans hR0
  have hN : ∀ i, Nat.blt i 2 = true → i < gnL G := fun i h => hn ▸ Nat.blt_eq.mp h
  unfold f_X8_solve
  show WW G 0 [(0, .ref 43), (1, .int a1)] [] I L _
  refine w_aload_n (q := 1) (i := 0) (j := 0) hc dX8_solve_0 rfl rfl rfl ?_
  refine w_aload_n (q := 2) (i := 0) (j := 0) hc dX8_solve_1 rfl rfl rfl ?_
  refine w_iload_n (q := 3) (i := 1) (j := 1) hc dX8_solve_2 rfl rfl rfl ?_
  refine w_iconst (q := 4) hc dX8_solve_3 ci_m1 rfl ?_
  refine w_join (fun j12_263 : Bool → Option (Int32 × Mm) => ∀ (s0_1 : Bool), WW G 12 [(0, .ref 43), (1, .int a1)] [.int (b2i s0_1), .ref 43, .ref 43] I L (j12_263 s0_1)) ?_ ?_
  · intro s0_1
    refine w_callV_Wi (q := 15) (st := [.ref 43]) (args := [.int (b2i s0_1)]) (p := 43) hc (m_X8_whySmall hK hR) dX8_solve_12 ml_X8_299 cf_X8_whySmall iv_X8_whySmall (k_43 hK) (C := RX8) (T := TX8) (N := 45) rfl rfl (Nat.lt_of_succ_le (Nat.le_of_ble_eq_true rfl)) rfl rfl (Nat.le_of_ble_eq_true rfl) ⟨Nat.le_of_ble_eq_true rfl, Nat.le_of_ble_eq_true rfl⟩ rfl (fun q_2 => ?_)
    refine w_callV_Wz (q := 18) (st := []) (args := [.int q_2.1]) (p := 43) hc (m_X8_is hK hR) dX8_solve_15 ml_X8_194 cf_X8_is iv_X8_is (k_43 hK) (C := RX8) (T := TX8) (N := 45) rfl rfl (Nat.lt_of_succ_le (Nat.le_of_ble_eq_true rfl)) rfl rfl (Nat.le_of_ble_eq_true rfl) ⟨Nat.le_of_ble_eq_true rfl, Nat.le_of_ble_eq_true rfl⟩ rfl (fun q_3 => ?_)
    refine w_ifne (q := 21) (tgt := 23) hc dX8_solve_18 rfl rfl ?_ ?_
    · refine w_iconst (q := 22) hc dX8_solve_21 ci_m1 rfl ?_
      exact w_ireturn (v := (-1)) hc hq dX8_solve_22 rfl rfl rfl
    · refine w_aload_n (q := 24) (i := 0) (j := 0) hc dX8_solve_23 rfl rfl rfl ?_
      refine w_aload_n (q := 25) (i := 0) (j := 0) hc dX8_solve_24 rfl rfl rfl ?_
      refine gf_X8_16 (q := 28) hc dX8_solve_25 (k_43 hK) (r_43_6 hR) rfl ?_
      refine w_callV_Wv (q := 31) (st := []) (args := [.ref 46]) (p := 43) hc (m_X8_laysStand hK hR (kB hK (k_46 hK))) dX8_solve_28 ml_X8_198 cf_X8_laysStand iv_X8_laysStand (k_43 hK) (C := RX8) (T := TX8) (N := 45) rfl rfl (Nat.lt_of_succ_le (Nat.le_of_ble_eq_true rfl)) rfl rfl (Nat.le_of_ble_eq_true rfl) ⟨Nat.le_of_ble_eq_true rfl, Nat.le_of_ble_eq_true rfl⟩ rfl (fun q_4 => ?_)
      refine w_aload_n (q := 32) (i := 0) (j := 0) hc dX8_solve_31 rfl rfl rfl ?_
      refine gf_X8_16 (q := 35) hc dX8_solve_32 (k_43 hK) (r_43_6 hR) rfl ?_
      refine w_aload_n (q := 36) (i := 0) (j := 0) hc dX8_solve_35 rfl rfl rfl ?_
      refine gf_X8_19 (q := 39) hc dX8_solve_36 (k_43 hK) (r_43_7 hR) rfl ?_
      refine w_callS_Wv (q := 42) (st := []) (args := [.ref 46, .ref 47]) hc (m_X8_inverts hK hR (kB hK (k_46 hK)) (kB hK (k_47 hK))) dX8_solve_39 ml_X8_130 cf_X8_inverts st_X8_inverts rfl rfl (Nat.le_of_ble_eq_true rfl) ⟨Nat.le_of_ble_eq_true rfl, Nat.le_of_ble_eq_true rfl⟩ rfl (fun q_5 => ?_)
      refine w_aload_n (q := 43) (i := 0) (j := 0) hc dX8_solve_42 rfl rfl rfl ?_
      refine w_iconst (q := 44) hc dX8_solve_43 ci_0 rfl ?_
      refine w_aload_n (q := 45) (i := 0) (j := 0) hc dX8_solve_44 rfl rfl rfl ?_
      refine gf_X8_19 (q := 48) hc dX8_solve_45 (k_43 hK) (r_43_7 hR) rfl ?_
      refine w_callV_Wz (q := 51) (st := []) (args := [.int 0, .ref 47]) (p := 43) hc (m_X8_isMember hK hR (kB hK (k_47 hK))) dX8_solve_48 ml_X8_275 cf_X8_isMember iv_X8_isMember (k_43 hK) (C := RX8) (T := TX8) (N := 45) rfl rfl (Nat.lt_of_succ_le (Nat.le_of_ble_eq_true rfl)) rfl rfl (Nat.le_of_ble_eq_true rfl) ⟨Nat.le_of_ble_eq_true rfl, Nat.le_of_ble_eq_true rfl⟩ rfl (fun q_6 => ?_)
      refine w_ifne (q := 54) (tgt := 61) hc dX8_solve_51 rfl rfl ?_ ?_
      · refine w_aload_n (q := 55) (i := 0) (j := 0) hc dX8_solve_54 rfl rfl rfl ?_
        refine w_bipush (q := 57) hc dX8_solve_55 cb_6 rfl ?_
        refine w_callV_Wi (q := 60) (st := []) (args := [.int 6]) (p := 43) hc (m_X8_refuse hK hR) dX8_solve_57 ml_X8_266 cf_X8_refuse iv_X8_refuse (k_43 hK) (C := RX8) (T := TX8) (N := 45) rfl rfl (Nat.lt_of_succ_le (Nat.le_of_ble_eq_true rfl)) rfl rfl (Nat.le_of_ble_eq_true rfl) ⟨Nat.le_of_ble_eq_true rfl, Nat.le_of_ble_eq_true rfl⟩ rfl (fun q_10 => ?_)
        exact w_ireturn (v := q_10.1) hc hq dX8_solve_60 rfl rfl rfl
      · refine w_aload_n (q := 62) (i := 0) (j := 0) hc dX8_solve_61 rfl rfl rfl ?_
        refine w_callV_Wv (q := 65) (st := []) (args := []) (p := 43) hc (m_X8_laysDepths hK hR) dX8_solve_62 ml_X8_302 cf_X8_laysDepths iv_X8_laysDepths (k_43 hK) (C := RX8) (T := TX8) (N := 45) rfl rfl (Nat.lt_of_succ_le (Nat.le_of_ble_eq_true rfl)) rfl rfl (Nat.le_of_ble_eq_true rfl) ⟨Nat.le_of_ble_eq_true rfl, Nat.le_of_ble_eq_true rfl⟩ rfl (fun q_7 => ?_)
        refine w_aload_n (q := 66) (i := 0) (j := 0) hc dX8_solve_65 rfl rfl rfl ?_
        refine w_aload_n (q := 67) (i := 0) (j := 0) hc dX8_solve_66 rfl rfl rfl ?_
        refine w_aload_n (q := 68) (i := 0) (j := 0) hc dX8_solve_67 rfl rfl rfl ?_
        refine gf_X8_19 (q := 71) hc dX8_solve_68 (k_43 hK) (r_43_7 hR) rfl ?_
        refine w_iload_n (q := 72) (i := 1) (j := 1) hc dX8_solve_71 rfl rfl rfl ?_
        refine w_callV_Wi (q := 75) (st := [.ref 43]) (args := [.ref 47, .int a1]) (p := 43) hc (m_X8_wayTo hK hR (kB hK (k_47 hK))) dX8_solve_72 ml_X8_305 cf_X8_wayTo iv_X8_wayTo (k_43 hK) (C := RX8) (T := TX8) (N := 45) rfl rfl (Nat.lt_of_succ_le (Nat.le_of_ble_eq_true rfl)) rfl rfl (Nat.le_of_ble_eq_true rfl) ⟨Nat.le_of_ble_eq_true rfl, Nat.le_of_ble_eq_true rfl⟩ rfl (fun q_8 => ?_)
        refine w_callV_Wi (q := 78) (st := []) (args := [.int q_8.1]) (p := 43) hc (m_X8_there hK hR) dX8_solve_75 ml_X8_272 cf_X8_there iv_X8_there (k_43 hK) (C := RX8) (T := TX8) (N := 45) rfl rfl (Nat.lt_of_succ_le (Nat.le_of_ble_eq_true rfl)) rfl rfl (Nat.le_of_ble_eq_true rfl) ⟨Nat.le_of_ble_eq_true rfl, Nat.le_of_ble_eq_true rfl⟩ rfl (fun q_9 => ?_)
        exact w_ireturn (v := q_9.1) hc hq dX8_solve_78 rfl rfl rfl
  · intro j12_263 hj12_263
    refine w_icmplt (q := 7) (tgt := 11) hc dX8_solve_4 rfl rfl ?_ ?_
    · refine w_iconst (q := 12) hc dX8_solve_11 ci_1 rfl ?_
      exact hj12_263 true
    · refine w_iconst (q := 8) hc dX8_solve_7 ci_0 rfl ?_
      refine w_goto (tgt := 12) hc dX8_solve_8 rfl ?_
      exact hj12_263 false
set_option maxRecDepth 100000 in
set_option maxHeartbeats 4000000 in
theorem m_X8_turns {l : Launch} {K : KT} {R : MR} {rm : Nat} {a1 : Nat} {a2 : Nat} {a3 : Nat} {I : MI} {L : ML} (hK0 : K = lK rm) (hR0 : R = lR rm) (ha1 : (lK rm)[a1]? = some (10, 10)) (ha2 : (lK rm)[a2]? = some (10, 10)) (ha3 : (lK rm)[a3]? = some (10, 10)) : MFg l yX8_turns cX8_turns 4 none 1 23 [.ref 43, .ref a1, .ref a2, .ref a3] K R I L anV meV (f_X8_turns a1 a2 a3 I L) := by
  refine mf_of (plainFor_of_name (by decide)) (Nat.le_of_ble_eq_true rfl) ?_
  intro G hc _ hK1 hR1 hn hq
  have hK := hK1.trans hK0
  have hR := hR1.trans hR0
  have hN : ∀ i, Nat.blt i 4 = true → i < gnL G := fun i h => hn ▸ Nat.blt_eq.mp h
  unfold f_X8_turns
  show WW G 0 [(0, .ref 43), (1, .ref a1), (2, .ref a2), (3, .ref a3)] [] I L _
  refine w_aload_n (q := 1) (i := 2) (j := 2) hc dX8_turns_0 rfl rfl rfl ?_
  refine w_aload_n (q := 2) (i := 0) (j := 0) hc dX8_turns_1 rfl rfl rfl ?_
  refine gf_X8_25 (q := 5) hc dX8_turns_2 (k_43 hK) (r_43_9 hR) rfl ?_
  refine w_callS_Wv (q := 8) (st := []) (args := [.ref a2, .ref 49]) hc (m_X8_inverts hK hR (kB hK (kA hK ha2)) (kB hK (k_49 hK))) dX8_turns_5 ml_X8_130 cf_X8_inverts st_X8_inverts rfl rfl (Nat.le_of_ble_eq_true rfl) ⟨Nat.le_of_ble_eq_true rfl, Nat.le_of_ble_eq_true rfl⟩ rfl (fun q_1 => ?_)
  refine w_aload_n (q := 9) (i := 0) (j := 0) hc dX8_turns_8 rfl rfl rfl ?_
  refine gf_X8_25 (q := 12) hc dX8_turns_9 (k_43 hK) (r_43_9 hR) rfl ?_
  refine w_aload_n (q := 13) (i := 1) (j := 1) hc dX8_turns_12 rfl rfl rfl ?_
  refine w_aload_n (q := 14) (i := 0) (j := 0) hc dX8_turns_13 rfl rfl rfl ?_
  refine gf_X8_28 (q := 17) hc dX8_turns_14 (k_43 hK) (r_43_10 hR) rfl ?_
  refine w_callS_Wv (q := 20) (st := []) (args := [.ref 49, .ref a1, .ref 50]) hc (m_X8_makes hK hR (kB hK (k_49 hK)) (kB hK (kA hK ha1)) (kB hK (k_50 hK))) dX8_turns_17 ml_X8_138 cf_X8_makes st_X8_makes rfl rfl (Nat.le_of_ble_eq_true rfl) ⟨Nat.le_of_ble_eq_true rfl, Nat.le_of_ble_eq_true rfl⟩ rfl (fun q_2 => ?_)
  refine w_aload_n (q := 21) (i := 0) (j := 0) hc dX8_turns_20 rfl rfl rfl ?_
  refine gf_X8_28 (q := 24) hc dX8_turns_21 (k_43 hK) (r_43_10 hR) rfl ?_
  refine w_aload_n (q := 25) (i := 2) (j := 2) hc dX8_turns_24 rfl rfl rfl ?_
  refine w_aload_n (q := 26) (i := 3) (j := 3) hc dX8_turns_25 rfl rfl rfl ?_
  refine w_callS_Wv (q := 29) (st := []) (args := [.ref 50, .ref a2, .ref a3]) hc (m_X8_makes hK hR (kB hK (k_50 hK)) (kB hK (kA hK ha2)) (kB hK (kA hK ha3))) dX8_turns_26 ml_X8_138 cf_X8_makes st_X8_makes rfl rfl (Nat.le_of_ble_eq_true rfl) ⟨Nat.le_of_ble_eq_true rfl, Nat.le_of_ble_eq_true rfl⟩ rfl (fun q_3 => ?_)
  exact w_return hc hq dX8_turns_29 rfl rfl
set_option maxRecDepth 100000 in
set_option maxHeartbeats 4000000 in
theorem wl_X8_goesWithMoves_2 {G : GT (Bool × Mm)} {rm : Nat} (a1 : Nat) (hc : Cx G cX8_goesWithMoves yX8_goesWithMoves.cls (some .boolean) 2 46) (hq : RetQ G anZW meW) (hK : gK G = lK rm) (hR : gR G = lR rm) (hn : gnL G = 3) (ha1 : (lK rm)[a1]? = some (10, 10)) : ∀ (n : Nat) (v2_1 : Int32) (I_2 : MI) (L_3 : ML), WW G 2 [(0, .ref 43), (1, .ref a1), (2, .int v2_1)] [] I_2 L_3 (f_X8_goesWithMoves_2 a1 n v2_1 I_2 L_3) := by
  have hN : ∀ i, Nat.blt i 3 = true → i < gnL G := fun i h => hn ▸ Nat.blt_eq.mp h
  intro n
  induction n with
  | zero => intros; exact w_none _ _ _
  | succ n ih =>
    intros v2_1 I_2 L_3
    rw [f_X8_goesWithMoves_2]
    refine w_iload_n (q := 3) (i := 2) (j := 2) hc dX8_goesWithMoves_2 rfl rfl rfl ?_
    refine w_aload_n (q := 4) (i := 0) (j := 0) hc dX8_goesWithMoves_3 rfl rfl rfl ?_
    refine w_callV_Ri (q := 7) (st := [.int v2_1]) (args := []) (p := 43) hc (m_X8_moves hK hR) dX8_goesWithMoves_4 ml_X8_110 cf_X8_moves iv_X8_moves (k_43 hK) (C := RX8) (T := TX8) (N := 45) rfl rfl (Nat.lt_of_succ_le (Nat.le_of_ble_eq_true rfl)) rfl rfl (Nat.le_of_ble_eq_true rfl) ⟨Nat.le_of_ble_eq_true rfl, Nat.le_of_ble_eq_true rfl⟩ rfl (fun q_4 => ?_)
    refine w_icmpge (q := 10) (tgt := 65) hc dX8_goesWithMoves_7 rfl rfl ?_ ?_
    · refine w_iconst (q := 66) hc dX8_goesWithMoves_65 ci_1 rfl ?_
      exact w_ireturn (v := b2i true) hc hq dX8_goesWithMoves_66 (nar_b2i true) rfl rfl
    · refine w_aload_n (q := 11) (i := 0) (j := 0) hc dX8_goesWithMoves_10 rfl rfl rfl ?_
      refine w_iload_n (q := 12) (i := 2) (j := 2) hc dX8_goesWithMoves_11 rfl rfl rfl ?_
      refine w_aload_n (q := 13) (i := 0) (j := 0) hc dX8_goesWithMoves_12 rfl rfl rfl ?_
      refine gf_X8_19 (q := 16) hc dX8_goesWithMoves_13 (k_43 hK) (r_43_7 hR) rfl ?_
      refine w_callV_Wv (q := 19) (st := []) (args := [.int v2_1, .ref 47]) (p := 43) hc (m_X8_laysMove hK hR (kB hK (k_47 hK))) dX8_goesWithMoves_16 ml_X8_126 cf_X8_laysMove iv_X8_laysMove (k_43 hK) (C := RX8) (T := TX8) (N := 45) rfl rfl (Nat.lt_of_succ_le (Nat.le_of_ble_eq_true rfl)) rfl rfl (Nat.le_of_ble_eq_true rfl) ⟨Nat.le_of_ble_eq_true rfl, Nat.le_of_ble_eq_true rfl⟩ rfl (fun q_5 => ?_)
      refine w_aload_n (q := 20) (i := 1) (j := 1) hc dX8_goesWithMoves_19 rfl rfl rfl ?_
      refine w_aload_n (q := 21) (i := 0) (j := 0) hc dX8_goesWithMoves_20 rfl rfl rfl ?_
      refine gf_X8_19 (q := 24) hc dX8_goesWithMoves_21 (k_43 hK) (r_43_7 hR) rfl ?_
      refine w_aload_n (q := 25) (i := 0) (j := 0) hc dX8_goesWithMoves_24 rfl rfl rfl ?_
      refine gf_X8_25 (q := 28) hc dX8_goesWithMoves_25 (k_43 hK) (r_43_9 hR) rfl ?_
      refine w_callS_Wv (q := 31) (st := []) (args := [.ref a1, .ref 47, .ref 49]) hc (m_X8_makes hK hR (kB hK (kA hK ha1)) (kB hK (k_47 hK)) (kB hK (k_49 hK))) dX8_goesWithMoves_28 ml_X8_138 cf_X8_makes st_X8_makes rfl rfl (Nat.le_of_ble_eq_true rfl) ⟨Nat.le_of_ble_eq_true rfl, Nat.le_of_ble_eq_true rfl⟩ rfl (fun q_6 => ?_)
      refine w_aload_n (q := 32) (i := 0) (j := 0) hc dX8_goesWithMoves_31 rfl rfl rfl ?_
      refine gf_X8_19 (q := 35) hc dX8_goesWithMoves_32 (k_43 hK) (r_43_7 hR) rfl ?_
      refine w_aload_n (q := 36) (i := 1) (j := 1) hc dX8_goesWithMoves_35 rfl rfl rfl ?_
      refine w_aload_n (q := 37) (i := 0) (j := 0) hc dX8_goesWithMoves_36 rfl rfl rfl ?_
      refine gf_X8_28 (q := 40) hc dX8_goesWithMoves_37 (k_43 hK) (r_43_10 hR) rfl ?_
      refine w_callS_Wv (q := 43) (st := []) (args := [.ref 47, .ref a1, .ref 50]) hc (m_X8_makes hK hR (kB hK (k_47 hK)) (kB hK (kA hK ha1)) (kB hK (k_50 hK))) dX8_goesWithMoves_40 ml_X8_138 cf_X8_makes st_X8_makes rfl rfl (Nat.le_of_ble_eq_true rfl) ⟨Nat.le_of_ble_eq_true rfl, Nat.le_of_ble_eq_true rfl⟩ rfl (fun q_7 => ?_)
      refine w_aload_n (q := 44) (i := 0) (j := 0) hc dX8_goesWithMoves_43 rfl rfl rfl ?_
      refine gf_X8_25 (q := 47) hc dX8_goesWithMoves_44 (k_43 hK) (r_43_9 hR) rfl ?_
      refine w_aload_n (q := 48) (i := 0) (j := 0) hc dX8_goesWithMoves_47 rfl rfl rfl ?_
      refine gf_X8_28 (q := 51) hc dX8_goesWithMoves_48 (k_43 hK) (r_43_10 hR) rfl ?_
      refine w_callS_Rz (q := 54) (st := []) (args := [.ref 49, .ref 50]) hc (m_X8_areSame hK hR (kB hK (k_49 hK)) (kB hK (k_50 hK))) dX8_goesWithMoves_51 ml_X8_311 cf_X8_areSame st_X8_areSame rfl rfl (Nat.le_of_ble_eq_true rfl) ⟨Nat.le_of_ble_eq_true rfl, Nat.le_of_ble_eq_true rfl⟩ rfl (fun q_8 => ?_)
      refine w_ifne (q := 57) (tgt := 59) hc dX8_goesWithMoves_54 rfl rfl ?_ ?_
      · refine w_iconst (q := 58) hc dX8_goesWithMoves_57 ci_0 rfl ?_
        exact w_ireturn (v := b2i false) hc hq dX8_goesWithMoves_58 (nar_b2i false) rfl rfl
      · refine w_iincB (q := 62) (i := 2) (j := 2) (lv' := fun v2_9 => [(2, .int v2_9), (0, .ref 43), (1, .ref a1)]) hc dX8_goesWithMoves_59 rfl ci_1 (hN 2 rfl) (fun _ => rfl) rfl (fun v2_9 => ?_)
        refine w_goto (tgt := 2) hc dX8_goesWithMoves_62 rfl ?_
        refine w_sub [1, 2, 0] rfl ?_
        exact ih v2_9 q_7.1 q_7.2
set_option maxRecDepth 100000 in
set_option maxHeartbeats 4000000 in
theorem m_X8_goesWithMoves {l : Launch} {K : KT} {R : MR} {rm : Nat} {a1 : Nat} {I : MI} {L : ML} (hK0 : K = lK rm) (hR0 : R = lR rm) (ha1 : (lK rm)[a1]? = some (10, 10)) : MFg l yX8_goesWithMoves cX8_goesWithMoves 3 (some .boolean) 2 46 [.ref 43, .ref a1] K R I L anZW meW (f_X8_goesWithMoves a1 I L) := by
  refine mf_of (plainFor_of_name (by decide)) (Nat.le_of_ble_eq_true rfl) ?_
  intro G hc _ hK1 hR1 hn hq
  have hK := hK1.trans hK0
  have hR := hR1.trans hR0
  have hN : ∀ i, Nat.blt i 3 = true → i < gnL G := fun i h => hn ▸ Nat.blt_eq.mp h
  unfold f_X8_goesWithMoves
  show WW G 0 [(0, .ref 43), (1, .ref a1)] [] I L _
  refine w_iconst (q := 1) hc dX8_goesWithMoves_0 ci_0 rfl ?_
  refine w_istore_n (q := 2) (i := 2) (lv' := [(2, .int 0), (0, .ref 43), (1, .ref a1)]) hc dX8_goesWithMoves_1 rfl (hN 2 rfl) rfl rfl ?_
  refine w_sub [1, 2, 0] rfl ?_
  exact wl_X8_goesWithMoves_2 a1 hc hq hK hR hn ha1 FU 0 I L
set_option maxRecDepth 100000 in
set_option maxHeartbeats 4000000 in
theorem wl_X8_centre_31 {G : GT (Int32 × Mm)} {rm : Nat} (v1_5 : Int32) (hc : Cx G cX8_centre yX8_centre.cls (some .int) 11 245) (hq : RetQ G anIW meW) (hK : gK G = lK rm) (hR : gR G = lR rm) (hn : gnL G = 4) (k0 : Int32 → MI → ML → Option (Int32 × Mm)) (hk0 : ∀ (v2_15 : Int32) (I_16 : MI) (L_17 : ML), WW G 78 [(0, .ref 43), (1, .int v1_5), (2, .int v2_15)] [] I_16 L_17 (k0 v2_15 I_16 L_17)) : ∀ (n : Nat) (v2_6 : Int32) (v3_7 : Int32) (I_8 : MI) (L_9 : ML), WW G 31 [(0, .ref 43), (1, .int v1_5), (2, .int v2_6), (3, .int v3_7)] [] I_8 L_9 (f_X8_centre_31 v1_5 k0 n v2_6 v3_7 I_8 L_9) := by
  have hN : ∀ i, Nat.blt i 4 = true → i < gnL G := fun i h => hn ▸ Nat.blt_eq.mp h
  intro n
  induction n with
  | zero => intros; exact w_none _ _ _
  | succ n ih =>
    intros v2_6 v3_7 I_8 L_9
    rw [f_X8_centre_31]
    refine w_iload_n (q := 32) (i := 3) (j := 3) hc dX8_centre_31 rfl rfl rfl ?_
    refine w_aload_n (q := 33) (i := 0) (j := 0) hc dX8_centre_32 rfl rfl rfl ?_
    refine gf_X8_290 (q := 36) hc dX8_centre_33 (k_43 hK) rfl ?_
    refine w_icmpge (q := 39) (tgt := 78) hc dX8_centre_36 rfl rfl ?_ ?_
    · refine w_sub [0, 1, 2] rfl ?_
      exact hk0 v2_6 I_8 L_9
    · refine w_aload_n (q := 40) (i := 0) (j := 0) hc dX8_centre_39 rfl rfl rfl ?_
      refine w_iload_n (q := 41) (i := 3) (j := 3) hc dX8_centre_40 rfl rfl rfl ?_
      refine w_aload_n (q := 42) (i := 0) (j := 0) hc dX8_centre_41 rfl rfl rfl ?_
      refine gf_X8_16 (q := 45) hc dX8_centre_42 (k_43 hK) (r_43_6 hR) rfl ?_
      refine w_callV_Wv (q := 48) (st := []) (args := [.int v3_7, .ref 46]) (p := 43) hc (m_X8_laysOne hK hR (kB hK (k_46 hK))) dX8_centre_45 ml_X8_296 cf_X8_laysOne iv_X8_laysOne (k_43 hK) (C := RX8) (T := TX8) (N := 45) rfl rfl (Nat.lt_of_succ_le (Nat.le_of_ble_eq_true rfl)) rfl rfl (Nat.le_of_ble_eq_true rfl) ⟨Nat.le_of_ble_eq_true rfl, Nat.le_of_ble_eq_true rfl⟩ rfl (fun q_10 => ?_)
      refine w_aload_n (q := 49) (i := 0) (j := 0) hc dX8_centre_48 rfl rfl rfl ?_
      refine w_aload_n (q := 50) (i := 0) (j := 0) hc dX8_centre_49 rfl rfl rfl ?_
      refine gf_X8_16 (q := 53) hc dX8_centre_50 (k_43 hK) (r_43_6 hR) rfl ?_
      refine w_callV_Wz (q := 56) (st := []) (args := [.ref 46]) (p := 43) hc (m_X8_goesWithMoves hK hR (kB hK (k_46 hK))) dX8_centre_53 ml_X8_315 cf_X8_goesWithMoves iv_X8_goesWithMoves (k_43 hK) (C := RX8) (T := TX8) (N := 45) rfl rfl (Nat.lt_of_succ_le (Nat.le_of_ble_eq_true rfl)) rfl rfl (Nat.le_of_ble_eq_true rfl) ⟨Nat.le_of_ble_eq_true rfl, Nat.le_of_ble_eq_true rfl⟩ rfl (fun q_11 => ?_)
      refine w_ifne (q := 59) (tgt := 62) hc dX8_centre_56 rfl rfl ?_ ?_
      · refine w_goto (tgt := 72) hc dX8_centre_59 rfl ?_
        refine w_iincB (q := 75) (i := 3) (j := 3) (lv' := fun v3_14 => [(3, .int v3_14), (0, .ref 43), (1, .int v1_5), (2, .int v2_6)]) hc dX8_centre_72 rfl ci_1 (hN 3 rfl) (fun _ => rfl) rfl (fun v3_14 => ?_)
        refine w_goto (tgt := 31) hc dX8_centre_75 rfl ?_
        refine w_sub [1, 2, 3, 0] rfl ?_
        exact ih v2_6 v3_14 q_11.2.1 q_11.2.2
      · refine w_iload_n (q := 63) (i := 2) (j := 2) hc dX8_centre_62 rfl rfl rfl ?_
        refine w_iload_n (q := 64) (i := 1) (j := 1) hc dX8_centre_63 rfl rfl rfl ?_
        refine w_icmpne (q := 67) (tgt := 69) hc dX8_centre_64 rfl rfl ?_ ?_
        · refine w_iload_n (q := 68) (i := 3) (j := 3) hc dX8_centre_67 rfl rfl rfl ?_
          exact w_ireturn (v := v3_7) hc hq dX8_centre_68 rfl rfl rfl
        · refine w_iincB (q := 72) (i := 2) (j := 2) (lv' := fun v2_12 => [(2, .int v2_12), (0, .ref 43), (1, .int v1_5), (3, .int v3_7)]) hc dX8_centre_69 rfl ci_1 (hN 2 rfl) (fun _ => rfl) rfl (fun v2_12 => ?_)
          refine w_iincB (q := 75) (i := 3) (j := 3) (lv' := fun v3_13 => [(3, .int v3_13), (2, .int v2_12), (0, .ref 43), (1, .int v1_5)]) hc dX8_centre_72 rfl ci_1 (hN 3 rfl) (fun _ => rfl) rfl (fun v3_13 => ?_)
          refine w_goto (tgt := 31) hc dX8_centre_75 rfl ?_
          refine w_sub [2, 3, 1, 0] rfl ?_
          exact ih v2_12 v3_13 q_11.2.1 q_11.2.2
set_option maxRecDepth 100000 in
set_option maxHeartbeats 4000000 in
theorem m_X8_centre {l : Launch} {K : KT} {R : MR} {rm : Nat} {a1 : Int32} {I : MI} {L : ML} (hK0 : K = lK rm) (hR0 : R = lR rm) : MFg l yX8_centre cX8_centre 4 (some .int) 11 245 [.ref 43, .int a1] K R I L anIW meW (f_X8_centre a1 I L) := by
  refine mf_of (plainFor_of_name (by decide)) (Nat.le_of_ble_eq_true rfl) ?_
  intro G hc _ hK1 hR1 hn hq
  have hK := hK1.trans hK0
  have hR := hR1.trans hR0
  have hN : ∀ i, Nat.blt i 4 = true → i < gnL G := fun i h => hn ▸ Nat.blt_eq.mp h
  unfold f_X8_centre
  show WW G 0 [(0, .ref 43), (1, .int a1)] [] I L _
  refine w_aload_n (q := 1) (i := 0) (j := 0) hc dX8_centre_0 rfl rfl rfl ?_
  refine w_aload_n (q := 2) (i := 0) (j := 0) hc dX8_centre_1 rfl rfl rfl ?_
  refine w_iload_n (q := 3) (i := 1) (j := 1) hc dX8_centre_2 rfl rfl rfl ?_
  refine w_iconst (q := 4) hc dX8_centre_3 ci_m1 rfl ?_
  refine w_join (fun j12_265 : Bool → Option (Int32 × Mm) => ∀ (s0_1 : Bool), WW G 12 [(0, .ref 43), (1, .int a1)] [.int (b2i s0_1), .ref 43, .ref 43] I L (j12_265 s0_1)) ?_ ?_
  · intro s0_1
    refine w_callV_Wi (q := 15) (st := [.ref 43]) (args := [.int (b2i s0_1)]) (p := 43) hc (m_X8_whySmall hK hR) dX8_centre_12 ml_X8_299 cf_X8_whySmall iv_X8_whySmall (k_43 hK) (C := RX8) (T := TX8) (N := 45) rfl rfl (Nat.lt_of_succ_le (Nat.le_of_ble_eq_true rfl)) rfl rfl (Nat.le_of_ble_eq_true rfl) ⟨Nat.le_of_ble_eq_true rfl, Nat.le_of_ble_eq_true rfl⟩ rfl (fun q_2 => ?_)
    refine w_callV_Wz (q := 18) (st := []) (args := [.int q_2.1]) (p := 43) hc (m_X8_is hK hR) dX8_centre_15 ml_X8_194 cf_X8_is iv_X8_is (k_43 hK) (C := RX8) (T := TX8) (N := 45) rfl rfl (Nat.lt_of_succ_le (Nat.le_of_ble_eq_true rfl)) rfl rfl (Nat.le_of_ble_eq_true rfl) ⟨Nat.le_of_ble_eq_true rfl, Nat.le_of_ble_eq_true rfl⟩ rfl (fun q_3 => ?_)
    refine w_ifne (q := 21) (tgt := 23) hc dX8_centre_18 rfl rfl ?_ ?_
    · refine w_iconst (q := 22) hc dX8_centre_21 ci_m1 rfl ?_
      exact w_ireturn (v := (-1)) hc hq dX8_centre_22 rfl rfl rfl
    · refine w_aload_n (q := 24) (i := 0) (j := 0) hc dX8_centre_23 rfl rfl rfl ?_
      refine w_callV_Wv (q := 27) (st := []) (args := []) (p := 43) hc (m_X8_laysAll hK hR) dX8_centre_24 ml_X8_293 cf_X8_laysAll iv_X8_laysAll (k_43 hK) (C := RX8) (T := TX8) (N := 45) rfl rfl (Nat.lt_of_succ_le (Nat.le_of_ble_eq_true rfl)) rfl rfl (Nat.le_of_ble_eq_true rfl) ⟨Nat.le_of_ble_eq_true rfl, Nat.le_of_ble_eq_true rfl⟩ rfl (fun q_4 => ?_)
      refine w_iconst (q := 28) hc dX8_centre_27 ci_0 rfl ?_
      refine w_istore_n (q := 29) (i := 2) (lv' := [(2, .int 0), (0, .ref 43), (1, .int a1)]) hc dX8_centre_28 rfl (hN 2 rfl) rfl rfl ?_
      refine w_iconst (q := 30) hc dX8_centre_29 ci_0 rfl ?_
      refine w_istore_n (q := 31) (i := 3) (lv' := [(3, .int 0), (2, .int 0), (0, .ref 43), (1, .int a1)]) hc dX8_centre_30 rfl (hN 3 rfl) rfl rfl ?_
      refine w_sub [2, 3, 1, 0] rfl ?_
      refine wl_X8_centre_31 a1 hc hq hK hR hn _ ?_ FU 0 0 q_4.1 q_4.2
      intro v2_15 I_16 L_17
      refine w_iload_n (q := 79) (i := 1) (j := 1) hc dX8_centre_78 rfl rfl rfl ?_
      refine w_iconst (q := 80) hc dX8_centre_79 ci_m1 rfl ?_
      refine w_icmpne (q := 83) (tgt := 87) hc dX8_centre_80 rfl rfl ?_ ?_
      · refine w_iload_n (q := 84) (i := 2) (j := 2) hc dX8_centre_83 rfl rfl rfl ?_
        refine w_goto (tgt := 92) hc dX8_centre_84 rfl ?_
        exact w_ireturn (v := v2_15) hc hq dX8_centre_92 rfl rfl rfl
      · refine w_aload_n (q := 88) (i := 0) (j := 0) hc dX8_centre_87 rfl rfl rfl ?_
        refine w_iconst (q := 89) hc dX8_centre_88 ci_5 rfl ?_
        refine w_callV_Wi (q := 92) (st := []) (args := [.int 5]) (p := 43) hc (m_X8_refuse hK hR) dX8_centre_89 ml_X8_266 cf_X8_refuse iv_X8_refuse (k_43 hK) (C := RX8) (T := TX8) (N := 45) rfl rfl (Nat.lt_of_succ_le (Nat.le_of_ble_eq_true rfl)) rfl rfl (Nat.le_of_ble_eq_true rfl) ⟨Nat.le_of_ble_eq_true rfl, Nat.le_of_ble_eq_true rfl⟩ rfl (fun q_18 => ?_)
        exact w_ireturn (v := q_18.1) hc hq dX8_centre_92 rfl rfl rfl
  · intro j12_265 hj12_265
    refine w_icmplt (q := 7) (tgt := 11) hc dX8_centre_4 rfl rfl ?_ ?_
    · refine w_iconst (q := 12) hc dX8_centre_11 ci_1 rfl ?_
      exact hj12_265 true
    · refine w_iconst (q := 8) hc dX8_centre_7 ci_0 rfl ?_
      refine w_goto (tgt := 12) hc dX8_centre_8 rfl ?_
      exact hj12_265 false
set_option maxRecDepth 100000 in
set_option maxHeartbeats 4000000 in
theorem wl_X8_laysClass_26 {G : GT (Int32 × Mm)} {rm : Nat} (v1_8 : Int32) (v3_10 : Int32) (hc : Cx G cX8_laysClass yX8_laysClass.cls (some .int) 3 74) (hq : RetQ G anIW meW) (hK : gK G = lK rm) (hR : gR G = lR rm) (hn : gnL G = 6) (k0 : Int32 → MI → ML → Option (Int32 × Mm)) (hk0 : ∀ (v2_25 : Int32) (I_26 : MI) (L_27 : ML), WW G 124 [(0, .ref 43), (1, .int v1_8), (2, .int v2_25), (3, .int v3_10)] [] I_26 L_27 (k0 v2_25 I_26 L_27)) : ∀ (n : Nat) (v2_9 : Int32) (v4_11 : Int32) (I_12 : MI) (L_13 : ML), WW G 26 [(0, .ref 43), (1, .int v1_8), (2, .int v2_9), (3, .int v3_10), (4, .int v4_11)] [] I_12 L_13 (f_X8_laysClass_26 v1_8 v3_10 k0 n v2_9 v4_11 I_12 L_13) := by
  have hN : ∀ i, Nat.blt i 6 = true → i < gnL G := fun i h => hn ▸ Nat.blt_eq.mp h
  intro n
  induction n with
  | zero => intros; exact w_none _ _ _
  | succ n ih =>
    intros v2_9 v4_11 I_12 L_13
    rw [f_X8_laysClass_26]
    refine w_iload (q := 28) (i := 4) (j := 4) hc dX8_laysClass_26 rfl rfl ?_
    refine w_aload_n (q := 29) (i := 0) (j := 0) hc dX8_laysClass_28 rfl rfl rfl ?_
    refine w_callV_Ri (q := 32) (st := [.int v4_11]) (args := []) (p := 43) hc (m_X8_moves hK hR) dX8_laysClass_29 ml_X8_110 cf_X8_moves iv_X8_moves (k_43 hK) (C := RX8) (T := TX8) (N := 45) rfl rfl (Nat.lt_of_succ_le (Nat.le_of_ble_eq_true rfl)) rfl rfl (Nat.le_of_ble_eq_true rfl) ⟨Nat.le_of_ble_eq_true rfl, Nat.le_of_ble_eq_true rfl⟩ rfl (fun q_14 => ?_)
    refine w_icmpge (q := 35) (tgt := 124) hc dX8_laysClass_32 rfl rfl ?_ ?_
    · refine w_sub [0, 1, 2, 3] rfl ?_
      exact hk0 v2_9 I_12 L_13
    · refine w_aload_n (q := 36) (i := 0) (j := 0) hc dX8_laysClass_35 rfl rfl rfl ?_
      refine w_aload_n (q := 37) (i := 0) (j := 0) hc dX8_laysClass_36 rfl rfl rfl ?_
      refine gf_X8_66 (q := 40) hc dX8_laysClass_37 (k_43 hK) (r_43_23 hR) rfl ?_
      refine w_iload_n (q := 41) (i := 3) (j := 3) hc dX8_laysClass_40 rfl rfl rfl ?_
      refine w_iald (q := 42) hc dX8_laysClass_41 (k_62 hK) rfl ?_
      refine w_aload_n (q := 43) (i := 0) (j := 0) hc dX8_laysClass_42 rfl rfl rfl ?_
      refine gf_X8_16 (q := 46) hc dX8_laysClass_43 (k_43 hK) (r_43_6 hR) rfl ?_
      refine w_callV_Wv (q := 49) (st := []) (args := [.int (I_12 62 (ix v3_10)), .ref 46]) (p := 43) hc (m_X8_laysOne hK hR (kB hK (k_46 hK))) dX8_laysClass_46 ml_X8_296 cf_X8_laysOne iv_X8_laysOne (k_43 hK) (C := RX8) (T := TX8) (N := 45) rfl rfl (Nat.lt_of_succ_le (Nat.le_of_ble_eq_true rfl)) rfl rfl (Nat.le_of_ble_eq_true rfl) ⟨Nat.le_of_ble_eq_true rfl, Nat.le_of_ble_eq_true rfl⟩ rfl (fun q_15 => ?_)
      refine w_aload_n (q := 50) (i := 0) (j := 0) hc dX8_laysClass_49 rfl rfl rfl ?_
      refine w_iload (q := 52) (i := 4) (j := 4) hc dX8_laysClass_50 rfl rfl ?_
      refine w_aload_n (q := 53) (i := 0) (j := 0) hc dX8_laysClass_52 rfl rfl rfl ?_
      refine gf_X8_19 (q := 56) hc dX8_laysClass_53 (k_43 hK) (r_43_7 hR) rfl ?_
      refine w_callV_Wv (q := 59) (st := []) (args := [.int v4_11, .ref 47]) (p := 43) hc (m_X8_laysMove hK hR (kB hK (k_47 hK))) dX8_laysClass_56 ml_X8_126 cf_X8_laysMove iv_X8_laysMove (k_43 hK) (C := RX8) (T := TX8) (N := 45) rfl rfl (Nat.lt_of_succ_le (Nat.le_of_ble_eq_true rfl)) rfl rfl (Nat.le_of_ble_eq_true rfl) ⟨Nat.le_of_ble_eq_true rfl, Nat.le_of_ble_eq_true rfl⟩ rfl (fun q_16 => ?_)
      refine w_aload_n (q := 60) (i := 0) (j := 0) hc dX8_laysClass_59 rfl rfl rfl ?_
      refine w_aload_n (q := 61) (i := 0) (j := 0) hc dX8_laysClass_60 rfl rfl rfl ?_
      refine gf_X8_16 (q := 64) hc dX8_laysClass_61 (k_43 hK) (r_43_6 hR) rfl ?_
      refine w_aload_n (q := 65) (i := 0) (j := 0) hc dX8_laysClass_64 rfl rfl rfl ?_
      refine gf_X8_19 (q := 68) hc dX8_laysClass_65 (k_43 hK) (r_43_7 hR) rfl ?_
      refine w_aload_n (q := 69) (i := 0) (j := 0) hc dX8_laysClass_68 rfl rfl rfl ?_
      refine gf_X8_22 (q := 72) hc dX8_laysClass_69 (k_43 hK) (r_43_8 hR) rfl ?_
      refine w_callV_Wv (q := 75) (st := []) (args := [.ref 46, .ref 47, .ref 48]) (p := 43) hc (m_X8_turns hK hR (kB hK (k_46 hK)) (kB hK (k_47 hK)) (kB hK (k_48 hK))) dX8_laysClass_72 ml_X8_318 cf_X8_turns iv_X8_turns (k_43 hK) (C := RX8) (T := TX8) (N := 45) rfl rfl (Nat.lt_of_succ_le (Nat.le_of_ble_eq_true rfl)) rfl rfl (Nat.le_of_ble_eq_true rfl) ⟨Nat.le_of_ble_eq_true rfl, Nat.le_of_ble_eq_true rfl⟩ rfl (fun q_17 => ?_)
      refine w_aload_n (q := 76) (i := 0) (j := 0) hc dX8_laysClass_75 rfl rfl rfl ?_
      refine w_aload_n (q := 77) (i := 0) (j := 0) hc dX8_laysClass_76 rfl rfl rfl ?_
      refine gf_X8_22 (q := 80) hc dX8_laysClass_77 (k_43 hK) (r_43_8 hR) rfl ?_
      refine w_callV_Wi (q := 83) (st := []) (args := [.ref 48]) (p := 43) hc (m_X8_placeOf hK hR (kB hK (k_48 hK))) dX8_laysClass_80 ml_X8_284 cf_X8_placeOf iv_X8_placeOf (k_43 hK) (C := RX8) (T := TX8) (N := 45) rfl rfl (Nat.lt_of_succ_le (Nat.le_of_ble_eq_true rfl)) rfl rfl (Nat.le_of_ble_eq_true rfl) ⟨Nat.le_of_ble_eq_true rfl, Nat.le_of_ble_eq_true rfl⟩ rfl (fun q_18 => ?_)
      refine w_istoreB (q := 85) (i := 5) (lv' := fun v5_19 => [(5, .int v5_19), (0, .ref 43), (1, .int v1_8), (2, .int v2_9), (3, .int v3_10), (4, .int v4_11)]) hc dX8_laysClass_83 (hN 5 rfl) (fun _ => rfl) rfl (fun v5_19 => ?_)
      refine w_aload_n (q := 86) (i := 0) (j := 1) hc dX8_laysClass_85 rfl rfl rfl ?_
      refine gf_X8_69 (q := 89) hc dX8_laysClass_86 (k_43 hK) (r_43_25 hR) rfl ?_
      refine w_iload (q := 91) (i := 5) (j := 0) hc dX8_laysClass_89 rfl rfl ?_
      refine w_iald (q := 92) hc dX8_laysClass_91 (k_63 hK) rfl ?_
      refine w_iconst (q := 93) hc dX8_laysClass_92 ci_m1 rfl ?_
      refine w_icmpeq (q := 96) (tgt := 99) hc dX8_laysClass_93 rfl rfl ?_ ?_
      · refine w_aload_n (q := 100) (i := 0) (j := 1) hc dX8_laysClass_99 rfl rfl rfl ?_
        refine gf_X8_69 (q := 103) hc dX8_laysClass_100 (k_43 hK) (r_43_25 hR) rfl ?_
        refine w_iload (q := 105) (i := 5) (j := 0) hc dX8_laysClass_103 rfl rfl ?_
        refine w_iload_n (q := 106) (i := 1) (j := 2) hc dX8_laysClass_105 rfl rfl rfl ?_
        refine w_iast (q := 107) hc dX8_laysClass_106 (k_63 hK) rfl (fun I_20 => ?_)
        refine w_aload_n (q := 108) (i := 0) (j := 1) hc dX8_laysClass_107 rfl rfl rfl ?_
        refine gf_X8_66 (q := 111) hc dX8_laysClass_108 (k_43 hK) (r_43_23 hR) rfl ?_
        refine w_iload_n (q := 112) (i := 2) (j := 3) hc dX8_laysClass_111 rfl rfl rfl ?_
        refine w_iload (q := 114) (i := 5) (j := 0) hc dX8_laysClass_112 rfl rfl ?_
        refine w_iast (q := 115) hc dX8_laysClass_114 (k_62 hK) rfl (fun I_21 => ?_)
        refine w_iincB (q := 118) (i := 2) (j := 3) (lv' := fun v2_22 => [(2, .int v2_22), (5, .int v5_19), (0, .ref 43), (1, .int v1_8), (3, .int v3_10), (4, .int v4_11)]) hc dX8_laysClass_115 rfl ci_1 (hN 2 rfl) (fun _ => rfl) rfl (fun v2_22 => ?_)
        refine w_iincB (q := 121) (i := 4) (j := 5) (lv' := fun v4_23 => [(4, .int v4_23), (2, .int v2_22), (5, .int v5_19), (0, .ref 43), (1, .int v1_8), (3, .int v3_10)]) hc dX8_laysClass_118 rfl ci_1 (hN 4 rfl) (fun _ => rfl) rfl (fun v4_23 => ?_)
        refine w_goto (tgt := 26) hc dX8_laysClass_121 rfl ?_
        refine w_sub [3, 4, 1, 5, 0] rfl ?_
        exact ih v2_22 v4_23 I_21 q_18.2.2
      · refine w_goto (tgt := 118) hc dX8_laysClass_96 rfl ?_
        refine w_iincB (q := 121) (i := 4) (j := 5) (lv' := fun v4_24 => [(4, .int v4_24), (5, .int v5_19), (0, .ref 43), (1, .int v1_8), (2, .int v2_9), (3, .int v3_10)]) hc dX8_laysClass_118 rfl ci_1 (hN 4 rfl) (fun _ => rfl) rfl (fun v4_24 => ?_)
        refine w_goto (tgt := 26) hc dX8_laysClass_121 rfl ?_
        refine w_sub [2, 3, 4, 5, 0] rfl ?_
        exact ih v2_9 v4_24 q_18.2.1 q_18.2.2
set_option maxRecDepth 100000 in
set_option maxHeartbeats 4000000 in
theorem wl_X8_laysClass_18 {G : GT (Int32 × Mm)} {rm : Nat} (v1_3 : Int32) (hc : Cx G cX8_laysClass yX8_laysClass.cls (some .int) 3 74) (hq : RetQ G anIW meW) (hK : gK G = lK rm) (hR : gR G = lR rm) (hn : gnL G = 6) : ∀ (n : Nat) (v2_4 : Int32) (v3_5 : Int32) (I_6 : MI) (L_7 : ML), WW G 18 [(0, .ref 43), (1, .int v1_3), (2, .int v2_4), (3, .int v3_5)] [] I_6 L_7 (f_X8_laysClass_18 v1_3 n v2_4 v3_5 I_6 L_7) := by
  have hN : ∀ i, Nat.blt i 6 = true → i < gnL G := fun i h => hn ▸ Nat.blt_eq.mp h
  intro n
  induction n with
  | zero => intros; exact w_none _ _ _
  | succ n ih =>
    intros v2_4 v3_5 I_6 L_7
    rw [f_X8_laysClass_18]
    refine w_iload_n (q := 19) (i := 3) (j := 3) hc dX8_laysClass_18 rfl rfl rfl ?_
    refine w_iload_n (q := 20) (i := 2) (j := 2) hc dX8_laysClass_19 rfl rfl rfl ?_
    refine w_icmpge (q := 23) (tgt := 130) hc dX8_laysClass_20 rfl rfl ?_ ?_
    · refine w_iload_n (q := 131) (i := 2) (j := 2) hc dX8_laysClass_130 rfl rfl rfl ?_
      exact w_ireturn (v := v2_4) hc hq dX8_laysClass_131 rfl rfl rfl
    · refine w_iconst (q := 24) hc dX8_laysClass_23 ci_0 rfl ?_
      refine w_istore (q := 26) (i := 4) (lv' := [(4, .int 0), (0, .ref 43), (1, .int v1_3), (2, .int v2_4), (3, .int v3_5)]) hc dX8_laysClass_24 (hN 4 rfl) rfl rfl ?_
      refine w_sub [1, 2, 3, 4, 0] rfl ?_
      refine wl_X8_laysClass_26 v1_3 v3_5 hc hq hK hR hn _ ?_ FU v2_4 0 I_6 L_7
      intro v2_25 I_26 L_27
      refine w_iincB (q := 127) (i := 3) (j := 3) (lv' := fun v3_28 => [(3, .int v3_28), (0, .ref 43), (1, .int v1_3), (2, .int v2_25)]) hc dX8_laysClass_124 rfl ci_1 (hN 3 rfl) (fun _ => rfl) rfl (fun v3_28 => ?_)
      refine w_goto (tgt := 18) hc dX8_laysClass_127 rfl ?_
      refine w_sub [1, 2, 3, 0] rfl ?_
      exact ih v2_25 v3_28 I_26 L_27
set_option maxRecDepth 100000 in
set_option maxHeartbeats 4000000 in
theorem m_X8_laysClass {l : Launch} {K : KT} {R : MR} {rm : Nat} {a1 : Int32} {I : MI} {L : ML} (hK0 : K = lK rm) (hR0 : R = lR rm) : MFg l yX8_laysClass cX8_laysClass 6 (some .int) 3 74 [.ref 43, .int a1] K R I L anIW meW (f_X8_laysClass a1 I L) := by
  refine mf_of (plainFor_of_name (by decide)) (Nat.le_of_ble_eq_true rfl) ?_
  intro G hc _ hK1 hR1 hn hq
  have hK := hK1.trans hK0
  have hR := hR1.trans hR0
  have hN : ∀ i, Nat.blt i 6 = true → i < gnL G := fun i h => hn ▸ Nat.blt_eq.mp h
  unfold f_X8_laysClass
  show WW G 0 [(0, .ref 43), (1, .int a1)] [] I L _
  refine w_aload_n (q := 1) (i := 0) (j := 0) hc dX8_laysClass_0 rfl rfl rfl ?_
  refine gf_X8_69 (q := 4) hc dX8_laysClass_1 (k_43 hK) (r_43_25 hR) rfl ?_
  refine w_iload_n (q := 5) (i := 1) (j := 1) hc dX8_laysClass_4 rfl rfl rfl ?_
  refine w_iload_n (q := 6) (i := 1) (j := 1) hc dX8_laysClass_5 rfl rfl rfl ?_
  refine w_iast (q := 7) hc dX8_laysClass_6 (k_63 hK) rfl (fun I_1 => ?_)
  refine w_aload_n (q := 8) (i := 0) (j := 0) hc dX8_laysClass_7 rfl rfl rfl ?_
  refine gf_X8_66 (q := 11) hc dX8_laysClass_8 (k_43 hK) (r_43_23 hR) rfl ?_
  refine w_iconst (q := 12) hc dX8_laysClass_11 ci_0 rfl ?_
  refine w_iload_n (q := 13) (i := 1) (j := 1) hc dX8_laysClass_12 rfl rfl rfl ?_
  refine w_iast (q := 14) hc dX8_laysClass_13 (k_62 hK) rfl (fun I_2 => ?_)
  refine w_iconst (q := 15) hc dX8_laysClass_14 ci_1 rfl ?_
  refine w_istore_n (q := 16) (i := 2) (lv' := [(2, .int 1), (0, .ref 43), (1, .int a1)]) hc dX8_laysClass_15 rfl (hN 2 rfl) rfl rfl ?_
  refine w_iconst (q := 17) hc dX8_laysClass_16 ci_0 rfl ?_
  refine w_istore_n (q := 18) (i := 3) (lv' := [(3, .int 0), (2, .int 1), (0, .ref 43), (1, .int a1)]) hc dX8_laysClass_17 rfl (hN 3 rfl) rfl rfl ?_
  refine w_sub [2, 3, 1, 0] rfl ?_
  exact wl_X8_laysClass_18 a1 hc hq hK hR hn FU 1 0 I_2 L
set_option maxRecDepth 100000 in
set_option maxHeartbeats 4000000 in
theorem wl_X8_laysClasses_31 {G : GT (Int32 × Mm)} {rm : Nat} (hc : Cx G cX8_laysClasses yX8_laysClasses.cls (some .int) 10 225) (hq : RetQ G anIW meW) (hK : gK G = lK rm) (hR : gR G = lR rm) (hn : gnL G = 3) : ∀ (n : Nat) (v1_7 : Int32) (v2_8 : Int32) (I_9 : MI) (L_10 : ML), WW G 31 [(0, .ref 43), (1, .int v1_7), (2, .int v2_8)] [] I_9 L_10 (f_X8_laysClasses_31 n v1_7 v2_8 I_9 L_10) := by
  have hN : ∀ i, Nat.blt i 3 = true → i < gnL G := fun i h => hn ▸ Nat.blt_eq.mp h
  intro n
  induction n with
  | zero => intros; exact w_none _ _ _
  | succ n ih =>
    intros v1_7 v2_8 I_9 L_10
    rw [f_X8_laysClasses_31]
    refine w_iload_n (q := 32) (i := 2) (j := 2) hc dX8_laysClasses_31 rfl rfl rfl ?_
    refine w_aload_n (q := 33) (i := 0) (j := 0) hc dX8_laysClasses_32 rfl rfl rfl ?_
    refine gf_X8_290 (q := 36) hc dX8_laysClasses_33 (k_43 hK) rfl ?_
    refine w_icmpge (q := 39) (tgt := 67) hc dX8_laysClasses_36 rfl rfl ?_ ?_
    · refine w_iload_n (q := 68) (i := 1) (j := 1) hc dX8_laysClasses_67 rfl rfl rfl ?_
      exact w_ireturn (v := v1_7) hc hq dX8_laysClasses_68 rfl rfl rfl
    · refine w_aload_n (q := 40) (i := 0) (j := 0) hc dX8_laysClasses_39 rfl rfl rfl ?_
      refine gf_X8_69 (q := 43) hc dX8_laysClasses_40 (k_43 hK) (r_43_25 hR) rfl ?_
      refine w_iload_n (q := 44) (i := 2) (j := 2) hc dX8_laysClasses_43 rfl rfl rfl ?_
      refine w_iald (q := 45) hc dX8_laysClasses_44 (k_63 hK) rfl ?_
      refine w_iconst (q := 46) hc dX8_laysClasses_45 ci_m1 rfl ?_
      refine w_icmpeq (q := 49) (tgt := 52) hc dX8_laysClasses_46 rfl rfl ?_ ?_
      · refine w_aload_n (q := 53) (i := 0) (j := 0) hc dX8_laysClasses_52 rfl rfl rfl ?_
        refine w_iload_n (q := 54) (i := 2) (j := 2) hc dX8_laysClasses_53 rfl rfl rfl ?_
        refine w_callV_Wi (q := 57) (st := []) (args := [.int v2_8]) (p := 43) hc (m_X8_laysClass hK hR) dX8_laysClasses_54 ml_X8_321 cf_X8_laysClass iv_X8_laysClass (k_43 hK) (C := RX8) (T := TX8) (N := 45) rfl rfl (Nat.lt_of_succ_le (Nat.le_of_ble_eq_true rfl)) rfl rfl (Nat.le_of_ble_eq_true rfl) ⟨Nat.le_of_ble_eq_true rfl, Nat.le_of_ble_eq_true rfl⟩ rfl (fun q_11 => ?_)
        refine w_pop_int (q := 58) hc dX8_laysClasses_57  rfl ?_
        refine w_iincB (q := 61) (i := 1) (j := 1) (lv' := fun v1_12 => [(1, .int v1_12), (0, .ref 43), (2, .int v2_8)]) hc dX8_laysClasses_58 rfl ci_1 (hN 1 rfl) (fun _ => rfl) rfl (fun v1_12 => ?_)
        refine w_iincB (q := 64) (i := 2) (j := 2) (lv' := fun v2_13 => [(2, .int v2_13), (1, .int v1_12), (0, .ref 43)]) hc dX8_laysClasses_61 rfl ci_1 (hN 2 rfl) (fun _ => rfl) rfl (fun v2_13 => ?_)
        refine w_goto (tgt := 31) hc dX8_laysClasses_64 rfl ?_
        refine w_sub [2, 1, 0] rfl ?_
        exact ih v1_12 v2_13 q_11.2.1 q_11.2.2
      · refine w_goto (tgt := 61) hc dX8_laysClasses_49 rfl ?_
        refine w_iincB (q := 64) (i := 2) (j := 2) (lv' := fun v2_14 => [(2, .int v2_14), (0, .ref 43), (1, .int v1_7)]) hc dX8_laysClasses_61 rfl ci_1 (hN 2 rfl) (fun _ => rfl) rfl (fun v2_14 => ?_)
        refine w_goto (tgt := 31) hc dX8_laysClasses_64 rfl ?_
        refine w_sub [1, 2, 0] rfl ?_
        exact ih v1_7 v2_14 I_9 L_10
set_option maxRecDepth 100000 in
set_option maxHeartbeats 4000000 in
theorem wl_X8_laysClasses_6 {G : GT (Int32 × Mm)} {rm : Nat} (L : ML) (hc : Cx G cX8_laysClasses yX8_laysClasses.cls (some .int) 10 225) (hq : RetQ G anIW meW) (hK : gK G = lK rm) (hR : gR G = lR rm) (hn : gnL G = 3) (k0 : MI → Option (Int32 × Mm)) (hk0 : ∀ (I_6 : MI), WW G 27 [(0, .ref 43)] [] I_6 L (k0 I_6)) : ∀ (n : Nat) (v1_2 : Int32) (I_3 : MI), WW G 6 [(0, .ref 43), (1, .int v1_2)] [] I_3 L (f_X8_laysClasses_6 L k0 n v1_2 I_3) := by
  have hN : ∀ i, Nat.blt i 3 = true → i < gnL G := fun i h => hn ▸ Nat.blt_eq.mp h
  intro n
  induction n with
  | zero => intros; exact w_none _ _ _
  | succ n ih =>
    intros v1_2 I_3
    rw [f_X8_laysClasses_6]
    refine w_iload_n (q := 7) (i := 1) (j := 1) hc dX8_laysClasses_6 rfl rfl rfl ?_
    refine w_aload_n (q := 8) (i := 0) (j := 0) hc dX8_laysClasses_7 rfl rfl rfl ?_
    refine gf_X8_290 (q := 11) hc dX8_laysClasses_8 (k_43 hK) rfl ?_
    refine w_icmpge (q := 14) (tgt := 27) hc dX8_laysClasses_11 rfl rfl ?_ ?_
    · refine w_sub [0] rfl ?_
      exact hk0 I_3
    · refine w_aload_n (q := 15) (i := 0) (j := 0) hc dX8_laysClasses_14 rfl rfl rfl ?_
      refine gf_X8_69 (q := 18) hc dX8_laysClasses_15 (k_43 hK) (r_43_25 hR) rfl ?_
      refine w_iload_n (q := 19) (i := 1) (j := 1) hc dX8_laysClasses_18 rfl rfl rfl ?_
      refine w_iconst (q := 20) hc dX8_laysClasses_19 ci_m1 rfl ?_
      refine w_iast (q := 21) hc dX8_laysClasses_20 (k_63 hK) rfl (fun I_4 => ?_)
      refine w_iincB (q := 24) (i := 1) (j := 1) (lv' := fun v1_5 => [(1, .int v1_5), (0, .ref 43)]) hc dX8_laysClasses_21 rfl ci_1 (hN 1 rfl) (fun _ => rfl) rfl (fun v1_5 => ?_)
      refine w_goto (tgt := 6) hc dX8_laysClasses_24 rfl ?_
      refine w_sub [1, 0] rfl ?_
      exact ih v1_5 I_4
set_option maxRecDepth 100000 in
set_option maxHeartbeats 4000000 in
theorem m_X8_laysClasses {l : Launch} {K : KT} {R : MR} {rm : Nat} {I : MI} {L : ML} (hK0 : K = lK rm) (hR0 : R = lR rm) : MFg l yX8_laysClasses cX8_laysClasses 3 (some .int) 10 225 [.ref 43] K R I L anIW meW (f_X8_laysClasses I L) := by
  refine mf_of (plainFor_of_name (by decide)) (Nat.le_of_ble_eq_true rfl) ?_
  intro G hc _ hK1 hR1 hn hq
  have hK := hK1.trans hK0
  have hR := hR1.trans hR0
  have hN : ∀ i, Nat.blt i 3 = true → i < gnL G := fun i h => hn ▸ Nat.blt_eq.mp h
  unfold f_X8_laysClasses
  show WW G 0 [(0, .ref 43)] [] I L _
  refine w_aload_n (q := 1) (i := 0) (j := 0) hc dX8_laysClasses_0 rfl rfl rfl ?_
  refine w_callV_Wv (q := 4) (st := []) (args := []) (p := 43) hc (m_X8_laysAll hK hR) dX8_laysClasses_1 ml_X8_293 cf_X8_laysAll iv_X8_laysAll (k_43 hK) (C := RX8) (T := TX8) (N := 45) rfl rfl (Nat.lt_of_succ_le (Nat.le_of_ble_eq_true rfl)) rfl rfl (Nat.le_of_ble_eq_true rfl) ⟨Nat.le_of_ble_eq_true rfl, Nat.le_of_ble_eq_true rfl⟩ rfl (fun q_1 => ?_)
  refine w_iconst (q := 5) hc dX8_laysClasses_4 ci_0 rfl ?_
  refine w_istore_n (q := 6) (i := 1) (lv' := [(1, .int 0), (0, .ref 43)]) hc dX8_laysClasses_5 rfl (hN 1 rfl) rfl rfl ?_
  refine w_sub [1, 0] rfl ?_
  refine wl_X8_laysClasses_6 q_1.2 hc hq hK hR hn _ ?_ FU 0 q_1.1
  intro I_6
  refine w_iconst (q := 28) hc dX8_laysClasses_27 ci_0 rfl ?_
  refine w_istore_n (q := 29) (i := 1) (lv' := [(1, .int 0), (0, .ref 43)]) hc dX8_laysClasses_28 rfl (hN 1 rfl) rfl rfl ?_
  refine w_iconst (q := 30) hc dX8_laysClasses_29 ci_0 rfl ?_
  refine w_istore_n (q := 31) (i := 2) (lv' := [(2, .int 0), (1, .int 0), (0, .ref 43)]) hc dX8_laysClasses_30 rfl (hN 2 rfl) rfl rfl ?_
  refine w_sub [2, 1, 0] rfl ?_
  exact wl_X8_laysClasses_31 hc hq hK hR hn FU 0 0 I_6 q_1.2
set_option maxRecDepth 100000 in
set_option maxHeartbeats 4000000 in
theorem m_X8_classes {l : Launch} {K : KT} {R : MR} {rm : Nat} {I : MI} {L : ML} (hK0 : K = lK rm) (hR0 : R = lR rm) : MFg l yX8_classes cX8_classes 1 (some .int) 11 247 [.ref 43] K R I L anIW meW (f_X8_classes I L) := by
  refine mf_of (plainFor_of_name (by decide)) (Nat.le_of_ble_eq_true rfl) ?_
  intro G hc _ hK1 hR1 hn hq
  have hK := hK1.trans hK0
  have hR := hR1.trans hR0
  have hN : ∀ i, Nat.blt i 1 = true → i < gnL G := fun i h => hn ▸ Nat.blt_eq.mp h
  unfold f_X8_classes
  show WW G 0 [(0, .ref 43)] [] I L _
  refine w_aload_n (q := 1) (i := 0) (j := 0) hc dX8_classes_0 rfl rfl rfl ?_
  refine w_aload_n (q := 2) (i := 0) (j := 0) hc dX8_classes_1 rfl rfl rfl ?_
  refine w_iconst (q := 3) hc dX8_classes_2 ci_0 rfl ?_
  refine w_callV_Wi (q := 6) (st := [.ref 43]) (args := [.int 0]) (p := 43) hc (m_X8_whySmall hK hR) dX8_classes_3 ml_X8_299 cf_X8_whySmall iv_X8_whySmall (k_43 hK) (C := RX8) (T := TX8) (N := 45) rfl rfl (Nat.lt_of_succ_le (Nat.le_of_ble_eq_true rfl)) rfl rfl (Nat.le_of_ble_eq_true rfl) ⟨Nat.le_of_ble_eq_true rfl, Nat.le_of_ble_eq_true rfl⟩ rfl (fun q_1 => ?_)
  refine w_callV_Wz (q := 9) (st := []) (args := [.int q_1.1]) (p := 43) hc (m_X8_is hK hR) dX8_classes_6 ml_X8_194 cf_X8_is iv_X8_is (k_43 hK) (C := RX8) (T := TX8) (N := 45) rfl rfl (Nat.lt_of_succ_le (Nat.le_of_ble_eq_true rfl)) rfl rfl (Nat.le_of_ble_eq_true rfl) ⟨Nat.le_of_ble_eq_true rfl, Nat.le_of_ble_eq_true rfl⟩ rfl (fun q_2 => ?_)
  refine w_ifeq (q := 12) (tgt := 19) hc dX8_classes_9 rfl rfl ?_ ?_
  · refine w_iconst (q := 20) hc dX8_classes_19 ci_m1 rfl ?_
    exact w_ireturn (v := (-1)) hc hq dX8_classes_20 rfl rfl rfl
  · refine w_aload_n (q := 13) (i := 0) (j := 0) hc dX8_classes_12 rfl rfl rfl ?_
    refine w_callV_Wi (q := 16) (st := []) (args := []) (p := 43) hc (m_X8_laysClasses hK hR) dX8_classes_13 ml_X8_324 cf_X8_laysClasses iv_X8_laysClasses (k_43 hK) (C := RX8) (T := TX8) (N := 45) rfl rfl (Nat.lt_of_succ_le (Nat.le_of_ble_eq_true rfl)) rfl rfl (Nat.le_of_ble_eq_true rfl) ⟨Nat.le_of_ble_eq_true rfl, Nat.le_of_ble_eq_true rfl⟩ rfl (fun q_3 => ?_)
    refine w_goto (tgt := 20) hc dX8_classes_16 rfl ?_
    exact w_ireturn (v := q_3.1) hc hq dX8_classes_20 rfl rfl rfl
set_option maxRecDepth 100000 in
set_option maxHeartbeats 4000000 in
theorem wl_X8_inClass_4 {G : GT Int32} {rm : Nat} (v1_1 : Int32) (I : MI) (L : ML) (hc : Cx G cX8_inClass yX8_inClass.cls (some .int) 0 0) (hq : RetQ G anI (meR I L)) (hK : gK G = lK rm) (hR : gR G = lR rm) (hn : gnL G = 4) : ∀ (n : Nat) (v2_2 : Int32) (v3_3 : Int32), WW G 4 [(0, .ref 43), (1, .int v1_1), (2, .int v2_2), (3, .int v3_3)] [] I L (f_X8_inClass_4 v1_1 I L n v2_2 v3_3) := by
  have hN : ∀ i, Nat.blt i 4 = true → i < gnL G := fun i h => hn ▸ Nat.blt_eq.mp h
  intro n
  induction n with
  | zero => intros; exact w_none _ _ _
  | succ n ih =>
    intros v2_2 v3_3
    rw [f_X8_inClass_4]
    refine w_iload_n (q := 5) (i := 3) (j := 3) hc dX8_inClass_4 rfl rfl rfl ?_
    refine w_aload_n (q := 6) (i := 0) (j := 0) hc dX8_inClass_5 rfl rfl rfl ?_
    refine gf_X8_290 (q := 9) hc dX8_inClass_6 (k_43 hK) rfl ?_
    refine w_icmpge (q := 12) (tgt := 41) hc dX8_inClass_9 rfl rfl ?_ ?_
    · refine w_iload_n (q := 42) (i := 2) (j := 2) hc dX8_inClass_41 rfl rfl rfl ?_
      exact w_ireturn (v := v2_2) hc hq dX8_inClass_42 rfl rfl rfl
    · refine w_iload_n (q := 13) (i := 2) (j := 2) hc dX8_inClass_12 rfl rfl rfl ?_
      refine w_aload_n (q := 14) (i := 0) (j := 0) hc dX8_inClass_13 rfl rfl rfl ?_
      refine gf_X8_69 (q := 17) hc dX8_inClass_14 (k_43 hK) (r_43_25 hR) rfl ?_
      refine w_iload_n (q := 18) (i := 3) (j := 3) hc dX8_inClass_17 rfl rfl rfl ?_
      refine w_iald (q := 19) hc dX8_inClass_18 (k_63 hK) rfl ?_
      refine w_aload_n (q := 20) (i := 0) (j := 0) hc dX8_inClass_19 rfl rfl rfl ?_
      refine gf_X8_69 (q := 23) hc dX8_inClass_20 (k_43 hK) (r_43_25 hR) rfl ?_
      refine w_iload_n (q := 24) (i := 1) (j := 1) hc dX8_inClass_23 rfl rfl rfl ?_
      refine w_iald (q := 25) hc dX8_inClass_24 (k_63 hK) rfl ?_
      refine w_icmpne (q := 28) (tgt := 32) hc dX8_inClass_25 rfl rfl ?_ ?_
      · refine w_iconst (q := 29) hc dX8_inClass_28 ci_1 rfl ?_
        refine w_goto (tgt := 33) hc dX8_inClass_29 rfl ?_
        refine w_iadd (q := 34) hc dX8_inClass_33  rfl ?_
        refine w_istore_nB (q := 35) (i := 2) (lv' := fun v2_6 => [(2, .int v2_6), (0, .ref 43), (1, .int v1_1), (3, .int v3_3)]) hc dX8_inClass_34 rfl (hN 2 rfl) (fun _ => rfl) rfl (fun v2_6 => ?_)
        refine w_iincB (q := 38) (i := 3) (j := 3) (lv' := fun v3_7 => [(3, .int v3_7), (2, .int v2_6), (0, .ref 43), (1, .int v1_1)]) hc dX8_inClass_35 rfl ci_1 (hN 3 rfl) (fun _ => rfl) rfl (fun v3_7 => ?_)
        refine w_goto (tgt := 4) hc dX8_inClass_38 rfl ?_
        refine w_sub [2, 3, 1, 0] rfl ?_
        exact ih v2_6 v3_7
      · refine w_iconst (q := 33) hc dX8_inClass_32 ci_0 rfl ?_
        refine w_iadd (q := 34) hc dX8_inClass_33  rfl ?_
        refine w_istore_nB (q := 35) (i := 2) (lv' := fun v2_4 => [(2, .int v2_4), (0, .ref 43), (1, .int v1_1), (3, .int v3_3)]) hc dX8_inClass_34 rfl (hN 2 rfl) (fun _ => rfl) rfl (fun v2_4 => ?_)
        refine w_iincB (q := 38) (i := 3) (j := 3) (lv' := fun v3_5 => [(3, .int v3_5), (2, .int v2_4), (0, .ref 43), (1, .int v1_1)]) hc dX8_inClass_35 rfl ci_1 (hN 3 rfl) (fun _ => rfl) rfl (fun v3_5 => ?_)
        refine w_goto (tgt := 4) hc dX8_inClass_38 rfl ?_
        refine w_sub [2, 3, 1, 0] rfl ?_
        exact ih v2_4 v3_5
set_option maxRecDepth 100000 in
set_option maxHeartbeats 4000000 in
theorem m_X8_inClass {l : Launch} {K : KT} {R : MR} {rm : Nat} {a1 : Int32} {I : MI} {L : ML} (hK0 : K = lK rm) (hR0 : R = lR rm) : MFg l yX8_inClass cX8_inClass 4 (some .int) 0 0 [.ref 43, .int a1] K R I L anI (meR I L) (f_X8_inClass a1 I L) := by
  refine mf_of (plainFor_of_name (by decide)) (Nat.le_of_ble_eq_true rfl) ?_
  intro G hc _ hK1 hR1 hn hq
  have hK := hK1.trans hK0
  have hR := hR1.trans hR0
  have hN : ∀ i, Nat.blt i 4 = true → i < gnL G := fun i h => hn ▸ Nat.blt_eq.mp h
  unfold f_X8_inClass
  show WW G 0 [(0, .ref 43), (1, .int a1)] [] I L _
  refine w_iconst (q := 1) hc dX8_inClass_0 ci_0 rfl ?_
  refine w_istore_n (q := 2) (i := 2) (lv' := [(2, .int 0), (0, .ref 43), (1, .int a1)]) hc dX8_inClass_1 rfl (hN 2 rfl) rfl rfl ?_
  refine w_iconst (q := 3) hc dX8_inClass_2 ci_0 rfl ?_
  refine w_istore_n (q := 4) (i := 3) (lv' := [(3, .int 0), (2, .int 0), (0, .ref 43), (1, .int a1)]) hc dX8_inClass_3 rfl (hN 3 rfl) rfl rfl ?_
  refine w_sub [2, 3, 1, 0] rfl ?_
  exact wl_X8_inClass_4 a1 I L hc hq hK hR hn FU 0 0
set_option maxRecDepth 100000 in
set_option maxHeartbeats 4000000 in
theorem m_X8_alike {l : Launch} {K : KT} {R : MR} {rm : Nat} {a1 : Int64} {I : MI} {L : ML} (hK0 : K = lK rm) (hR0 : R = lR rm) : MFg l yX8_alike cX8_alike 4 (some .int) 11 247 [.ref 43, .long a1] K R I L anIW meW (f_X8_alike a1 I L) := by
  refine mf_of (plainFor_of_name (by decide)) (Nat.le_of_ble_eq_true rfl) ?_
  intro G hc _ hK1 hR1 hn hq
  have hK := hK1.trans hK0
  have hR := hR1.trans hR0
  have hN : ∀ i, Nat.blt i 4 = true → i < gnL G := fun i h => hn ▸ Nat.blt_eq.mp h
  unfold f_X8_alike
  show WW G 0 [(0, .ref 43), (1, .long a1)] [] I L _
  refine w_aload_n (q := 1) (i := 0) (j := 0) hc dX8_alike_0 rfl rfl rfl ?_
  refine w_aload_n (q := 2) (i := 0) (j := 0) hc dX8_alike_1 rfl rfl rfl ?_
  refine w_aload_n (q := 3) (i := 0) (j := 0) hc dX8_alike_2 rfl rfl rfl ?_
  refine w_lload_n (q := 4) (i := 1) (j := 1) hc dX8_alike_3 rfl rfl rfl ?_
  refine w_aload_n (q := 5) (i := 0) (j := 0) hc dX8_alike_4 rfl rfl rfl ?_
  refine gf_X8_16 (q := 8) hc dX8_alike_5 (k_43 hK) (r_43_6 hR) rfl ?_
  refine w_callV_Wz (q := 11) (st := [.ref 43, .ref 43]) (args := [.long a1, .ref 46]) (p := 43) hc (m_X8_lies hK hR (kB hK (k_46 hK))) dX8_alike_8 ml_X8_217 cf_X8_lies iv_X8_lies (k_43 hK) (C := RX8) (T := TX8) (N := 45) rfl rfl (Nat.lt_of_succ_le (Nat.le_of_ble_eq_true rfl)) rfl rfl (Nat.le_of_ble_eq_true rfl) ⟨Nat.le_of_ble_eq_true rfl, Nat.le_of_ble_eq_true rfl⟩ rfl (fun q_1 => ?_)
  refine w_join (fun j19_275 : Bool → Option (Int32 × Mm) => ∀ (s0_2 : Bool), WW G 19 [(0, .ref 43)] [.int (b2i s0_2), .ref 43, .ref 43] q_1.2.1 q_1.2.2 (j19_275 s0_2)) ?_ ?_
  · intro s0_2
    refine w_callV_Wi (q := 22) (st := [.ref 43]) (args := [.int (b2i s0_2)]) (p := 43) hc (m_X8_whySmall hK hR) dX8_alike_19 ml_X8_299 cf_X8_whySmall iv_X8_whySmall (k_43 hK) (C := RX8) (T := TX8) (N := 45) rfl rfl (Nat.lt_of_succ_le (Nat.le_of_ble_eq_true rfl)) rfl rfl (Nat.le_of_ble_eq_true rfl) ⟨Nat.le_of_ble_eq_true rfl, Nat.le_of_ble_eq_true rfl⟩ rfl (fun q_3 => ?_)
    refine w_callV_Wz (q := 25) (st := []) (args := [.int q_3.1]) (p := 43) hc (m_X8_is hK hR) dX8_alike_22 ml_X8_194 cf_X8_is iv_X8_is (k_43 hK) (C := RX8) (T := TX8) (N := 45) rfl rfl (Nat.lt_of_succ_le (Nat.le_of_ble_eq_true rfl)) rfl rfl (Nat.le_of_ble_eq_true rfl) ⟨Nat.le_of_ble_eq_true rfl, Nat.le_of_ble_eq_true rfl⟩ rfl (fun q_4 => ?_)
    refine w_ifne (q := 28) (tgt := 30) hc dX8_alike_25 rfl rfl ?_ ?_
    · refine w_iconst (q := 29) hc dX8_alike_28 ci_m1 rfl ?_
      exact w_ireturn (v := (-1)) hc hq dX8_alike_29 rfl rfl rfl
    · refine w_aload_n (q := 31) (i := 0) (j := 0) hc dX8_alike_30 rfl rfl rfl ?_
      refine w_aload_n (q := 32) (i := 0) (j := 0) hc dX8_alike_31 rfl rfl rfl ?_
      refine gf_X8_16 (q := 35) hc dX8_alike_32 (k_43 hK) (r_43_6 hR) rfl ?_
      refine w_callV_Wi (q := 38) (st := []) (args := [.ref 46]) (p := 43) hc (m_X8_placeOf hK hR (kB hK (k_46 hK))) dX8_alike_35 ml_X8_284 cf_X8_placeOf iv_X8_placeOf (k_43 hK) (C := RX8) (T := TX8) (N := 45) rfl rfl (Nat.lt_of_succ_le (Nat.le_of_ble_eq_true rfl)) rfl rfl (Nat.le_of_ble_eq_true rfl) ⟨Nat.le_of_ble_eq_true rfl, Nat.le_of_ble_eq_true rfl⟩ rfl (fun q_5 => ?_)
      refine w_istore_nB (q := 39) (i := 3) (lv' := fun v3_6 => [(3, .int v3_6), (0, .ref 43)]) hc dX8_alike_38 rfl (hN 3 rfl) (fun _ => rfl) rfl (fun v3_6 => ?_)
      refine w_iload_n (q := 40) (i := 3) (j := 0) hc dX8_alike_39 rfl rfl rfl ?_
      refine w_iconst (q := 41) hc dX8_alike_40 ci_m1 rfl ?_
      refine w_icmpne (q := 44) (tgt := 51) hc dX8_alike_41 rfl rfl ?_ ?_
      · refine w_aload_n (q := 45) (i := 0) (j := 1) hc dX8_alike_44 rfl rfl rfl ?_
        refine w_bipush (q := 47) hc dX8_alike_45 cb_6 rfl ?_
        refine w_callV_Wi (q := 50) (st := []) (args := [.int 6]) (p := 43) hc (m_X8_refuse hK hR) dX8_alike_47 ml_X8_266 cf_X8_refuse iv_X8_refuse (k_43 hK) (C := RX8) (T := TX8) (N := 45) rfl rfl (Nat.lt_of_succ_le (Nat.le_of_ble_eq_true rfl)) rfl rfl (Nat.le_of_ble_eq_true rfl) ⟨Nat.le_of_ble_eq_true rfl, Nat.le_of_ble_eq_true rfl⟩ rfl (fun q_9 => ?_)
        exact w_ireturn (v := q_9.1) hc hq dX8_alike_50 rfl rfl rfl
      · refine w_aload_n (q := 52) (i := 0) (j := 1) hc dX8_alike_51 rfl rfl rfl ?_
        refine w_callV_Wi (q := 55) (st := []) (args := []) (p := 43) hc (m_X8_laysClasses hK hR) dX8_alike_52 ml_X8_324 cf_X8_laysClasses iv_X8_laysClasses (k_43 hK) (C := RX8) (T := TX8) (N := 45) rfl rfl (Nat.lt_of_succ_le (Nat.le_of_ble_eq_true rfl)) rfl rfl (Nat.le_of_ble_eq_true rfl) ⟨Nat.le_of_ble_eq_true rfl, Nat.le_of_ble_eq_true rfl⟩ rfl (fun q_7 => ?_)
        refine w_pop_int (q := 56) hc dX8_alike_55  rfl ?_
        refine w_aload_n (q := 57) (i := 0) (j := 1) hc dX8_alike_56 rfl rfl rfl ?_
        refine w_iload_n (q := 58) (i := 3) (j := 0) hc dX8_alike_57 rfl rfl rfl ?_
        refine w_callV_Ri (q := 61) (st := []) (args := [.int v3_6]) (p := 43) hc (m_X8_inClass hK hR) dX8_alike_58 ml_X8_327 cf_X8_inClass iv_X8_inClass (k_43 hK) (C := RX8) (T := TX8) (N := 45) rfl rfl (Nat.lt_of_succ_le (Nat.le_of_ble_eq_true rfl)) rfl rfl (Nat.le_of_ble_eq_true rfl) ⟨Nat.le_of_ble_eq_true rfl, Nat.le_of_ble_eq_true rfl⟩ rfl (fun q_8 => ?_)
        exact w_ireturn (v := q_8) hc hq dX8_alike_61 rfl rfl rfl
  · intro j19_275 hj19_275
    refine w_ifeq (q := 14) (tgt := 18) hc dX8_alike_11 rfl rfl ?_ ?_
    · refine w_iconst (q := 19) hc dX8_alike_18 ci_1 rfl ?_
      refine w_sub [0] rfl ?_
      exact hj19_275 true
    · refine w_iconst (q := 15) hc dX8_alike_14 ci_0 rfl ?_
      refine w_goto (tgt := 19) hc dX8_alike_15 rfl ?_
      refine w_sub [0] rfl ?_
      exact hj19_275 false
set_option maxRecDepth 100000 in
set_option maxHeartbeats 4000000 in
theorem m_X8_same {l : Launch} {K : KT} {R : MR} {rm : Nat} {a1 : Int64} {a3 : Int64} {I : MI} {L : ML} (hK0 : K = lK rm) (hR0 : R = lR rm) : MFg l yX8_same cX8_same 7 (some .int) 11 247 [.ref 43, .long a1, .long a3] K R I L anIW meW (f_X8_same a1 a3 I L) := by
  refine mf_of (plainFor_of_name (by decide)) (Nat.le_of_ble_eq_true rfl) ?_
  intro G hc _ hK1 hR1 hn hq
  have hK := hK1.trans hK0
  have hR := hR1.trans hR0
  have hN : ∀ i, Nat.blt i 7 = true → i < gnL G := fun i h => hn ▸ Nat.blt_eq.mp h
  unfold f_X8_same
  show WW G 0 [(0, .ref 43), (1, .long a1), (3, .long a3)] [] I L _
  refine w_aload_n (q := 1) (i := 0) (j := 0) hc dX8_same_0 rfl rfl rfl ?_
  refine w_aload_n (q := 2) (i := 0) (j := 0) hc dX8_same_1 rfl rfl rfl ?_
  refine w_aload_n (q := 3) (i := 0) (j := 0) hc dX8_same_2 rfl rfl rfl ?_
  refine w_lload_n (q := 4) (i := 1) (j := 1) hc dX8_same_3 rfl rfl rfl ?_
  refine w_aload_n (q := 5) (i := 0) (j := 0) hc dX8_same_4 rfl rfl rfl ?_
  refine gf_X8_16 (q := 8) hc dX8_same_5 (k_43 hK) (r_43_6 hR) rfl ?_
  refine w_callV_Wz (q := 11) (st := [.ref 43, .ref 43]) (args := [.long a1, .ref 46]) (p := 43) hc (m_X8_lies hK hR (kB hK (k_46 hK))) dX8_same_8 ml_X8_217 cf_X8_lies iv_X8_lies (k_43 hK) (C := RX8) (T := TX8) (N := 45) rfl rfl (Nat.lt_of_succ_le (Nat.le_of_ble_eq_true rfl)) rfl rfl (Nat.le_of_ble_eq_true rfl) ⟨Nat.le_of_ble_eq_true rfl, Nat.le_of_ble_eq_true rfl⟩ rfl (fun q_1 => ?_)
  refine w_join (fun j31_276 : Bool → MI → ML → Option (Int32 × Mm) => ∀ (s0_5 : Bool) (I_6 : MI) (L_7 : ML), WW G 31 [(0, .ref 43)] [.int (b2i s0_5), .ref 43, .ref 43] I_6 L_7 (j31_276 s0_5 I_6 L_7)) ?_ ?_
  · intro s0_5 I_6 L_7
    refine w_callV_Wi (q := 34) (st := [.ref 43]) (args := [.int (b2i s0_5)]) (p := 43) hc (m_X8_whySmall hK hR) dX8_same_31 ml_X8_299 cf_X8_whySmall iv_X8_whySmall (k_43 hK) (C := RX8) (T := TX8) (N := 45) rfl rfl (Nat.lt_of_succ_le (Nat.le_of_ble_eq_true rfl)) rfl rfl (Nat.le_of_ble_eq_true rfl) ⟨Nat.le_of_ble_eq_true rfl, Nat.le_of_ble_eq_true rfl⟩ rfl (fun q_8 => ?_)
    refine w_callV_Wz (q := 37) (st := []) (args := [.int q_8.1]) (p := 43) hc (m_X8_is hK hR) dX8_same_34 ml_X8_194 cf_X8_is iv_X8_is (k_43 hK) (C := RX8) (T := TX8) (N := 45) rfl rfl (Nat.lt_of_succ_le (Nat.le_of_ble_eq_true rfl)) rfl rfl (Nat.le_of_ble_eq_true rfl) ⟨Nat.le_of_ble_eq_true rfl, Nat.le_of_ble_eq_true rfl⟩ rfl (fun q_9 => ?_)
    refine w_ifne (q := 40) (tgt := 42) hc dX8_same_37 rfl rfl ?_ ?_
    · refine w_iconst (q := 41) hc dX8_same_40 ci_m1 rfl ?_
      exact w_ireturn (v := (-1)) hc hq dX8_same_41 rfl rfl rfl
    · refine w_aload_n (q := 43) (i := 0) (j := 0) hc dX8_same_42 rfl rfl rfl ?_
      refine w_aload_n (q := 44) (i := 0) (j := 0) hc dX8_same_43 rfl rfl rfl ?_
      refine gf_X8_16 (q := 47) hc dX8_same_44 (k_43 hK) (r_43_6 hR) rfl ?_
      refine w_callV_Wi (q := 50) (st := []) (args := [.ref 46]) (p := 43) hc (m_X8_placeOf hK hR (kB hK (k_46 hK))) dX8_same_47 ml_X8_284 cf_X8_placeOf iv_X8_placeOf (k_43 hK) (C := RX8) (T := TX8) (N := 45) rfl rfl (Nat.lt_of_succ_le (Nat.le_of_ble_eq_true rfl)) rfl rfl (Nat.le_of_ble_eq_true rfl) ⟨Nat.le_of_ble_eq_true rfl, Nat.le_of_ble_eq_true rfl⟩ rfl (fun q_10 => ?_)
      refine w_istoreB (q := 52) (i := 5) (lv' := fun v5_11 => [(5, .int v5_11), (0, .ref 43)]) hc dX8_same_50 (hN 5 rfl) (fun _ => rfl) rfl (fun v5_11 => ?_)
      refine w_aload_n (q := 53) (i := 0) (j := 1) hc dX8_same_52 rfl rfl rfl ?_
      refine w_aload_n (q := 54) (i := 0) (j := 1) hc dX8_same_53 rfl rfl rfl ?_
      refine gf_X8_19 (q := 57) hc dX8_same_54 (k_43 hK) (r_43_7 hR) rfl ?_
      refine w_callV_Wi (q := 60) (st := []) (args := [.ref 47]) (p := 43) hc (m_X8_placeOf hK hR (kB hK (k_47 hK))) dX8_same_57 ml_X8_284 cf_X8_placeOf iv_X8_placeOf (k_43 hK) (C := RX8) (T := TX8) (N := 45) rfl rfl (Nat.lt_of_succ_le (Nat.le_of_ble_eq_true rfl)) rfl rfl (Nat.le_of_ble_eq_true rfl) ⟨Nat.le_of_ble_eq_true rfl, Nat.le_of_ble_eq_true rfl⟩ rfl (fun q_12 => ?_)
      refine w_istoreB (q := 62) (i := 6) (lv' := fun v6_13 => [(6, .int v6_13), (5, .int v5_11), (0, .ref 43)]) hc dX8_same_60 (hN 6 rfl) (fun _ => rfl) rfl (fun v6_13 => ?_)
      refine w_iload (q := 64) (i := 5) (j := 1) hc dX8_same_62 rfl rfl ?_
      refine w_iconst (q := 65) hc dX8_same_64 ci_m1 rfl ?_
      refine w_icmpeq (q := 68) (tgt := 74) hc dX8_same_65 rfl rfl ?_ ?_
      · refine w_aload_n (q := 75) (i := 0) (j := 2) hc dX8_same_74 rfl rfl rfl ?_
        refine w_bipush (q := 77) hc dX8_same_75 cb_6 rfl ?_
        refine w_callV_Wi (q := 80) (st := []) (args := [.int 6]) (p := 43) hc (m_X8_refuse hK hR) dX8_same_77 ml_X8_266 cf_X8_refuse iv_X8_refuse (k_43 hK) (C := RX8) (T := TX8) (N := 45) rfl rfl (Nat.lt_of_succ_le (Nat.le_of_ble_eq_true rfl)) rfl rfl (Nat.le_of_ble_eq_true rfl) ⟨Nat.le_of_ble_eq_true rfl, Nat.le_of_ble_eq_true rfl⟩ rfl (fun q_14 => ?_)
        exact w_ireturn (v := q_14.1) hc hq dX8_same_80 rfl rfl rfl
      · refine w_iload (q := 70) (i := 6) (j := 0) hc dX8_same_68 rfl rfl ?_
        refine w_iconst (q := 71) hc dX8_same_70 ci_m1 rfl ?_
        refine w_icmpne (q := 74) (tgt := 81) hc dX8_same_71 rfl rfl ?_ ?_
        · refine w_aload_n (q := 75) (i := 0) (j := 2) hc dX8_same_74 rfl rfl rfl ?_
          refine w_bipush (q := 77) hc dX8_same_75 cb_6 rfl ?_
          refine w_callV_Wi (q := 80) (st := []) (args := [.int 6]) (p := 43) hc (m_X8_refuse hK hR) dX8_same_77 ml_X8_266 cf_X8_refuse iv_X8_refuse (k_43 hK) (C := RX8) (T := TX8) (N := 45) rfl rfl (Nat.lt_of_succ_le (Nat.le_of_ble_eq_true rfl)) rfl rfl (Nat.le_of_ble_eq_true rfl) ⟨Nat.le_of_ble_eq_true rfl, Nat.le_of_ble_eq_true rfl⟩ rfl (fun q_16 => ?_)
          exact w_ireturn (v := q_16.1) hc hq dX8_same_80 rfl rfl rfl
        · refine w_aload_n (q := 82) (i := 0) (j := 2) hc dX8_same_81 rfl rfl rfl ?_
          refine w_callV_Wi (q := 85) (st := []) (args := []) (p := 43) hc (m_X8_laysClasses hK hR) dX8_same_82 ml_X8_324 cf_X8_laysClasses iv_X8_laysClasses (k_43 hK) (C := RX8) (T := TX8) (N := 45) rfl rfl (Nat.lt_of_succ_le (Nat.le_of_ble_eq_true rfl)) rfl rfl (Nat.le_of_ble_eq_true rfl) ⟨Nat.le_of_ble_eq_true rfl, Nat.le_of_ble_eq_true rfl⟩ rfl (fun q_15 => ?_)
          refine w_pop_int (q := 86) hc dX8_same_85  rfl ?_
          refine w_aload_n (q := 87) (i := 0) (j := 2) hc dX8_same_86 rfl rfl rfl ?_
          refine gf_X8_69 (q := 90) hc dX8_same_87 (k_43 hK) (r_43_25 hR) rfl ?_
          refine w_iload (q := 92) (i := 5) (j := 1) hc dX8_same_90 rfl rfl ?_
          refine w_iald (q := 93) hc dX8_same_92 (k_63 hK) rfl ?_
          refine w_aload_n (q := 94) (i := 0) (j := 2) hc dX8_same_93 rfl rfl rfl ?_
          refine gf_X8_69 (q := 97) hc dX8_same_94 (k_43 hK) (r_43_25 hR) rfl ?_
          refine w_iload (q := 99) (i := 6) (j := 0) hc dX8_same_97 rfl rfl ?_
          refine w_iald (q := 100) hc dX8_same_99 (k_63 hK) rfl ?_
          refine w_icmpne (q := 103) (tgt := 107) hc dX8_same_100 rfl rfl ?_ ?_
          · refine w_iconst (q := 104) hc dX8_same_103 ci_1 rfl ?_
            refine w_goto (tgt := 108) hc dX8_same_104 rfl ?_
            exact w_ireturn (v := 1) hc hq dX8_same_108 rfl rfl rfl
          · refine w_iconst (q := 108) hc dX8_same_107 ci_0 rfl ?_
            exact w_ireturn (v := 0) hc hq dX8_same_108 rfl rfl rfl
  · intro j31_276 hj31_276
    refine w_join (fun j30_277 : MI → ML → Option (Int32 × Mm) => ∀ (I_3 : MI) (L_4 : ML), WW G 30 [(0, .ref 43)] [.ref 43, .ref 43] I_3 L_4 (j30_277 I_3 L_4)) ?_ ?_
    · intro I_3 L_4
      refine w_iconst (q := 31) hc dX8_same_30 ci_1 rfl ?_
      exact hj31_276 true I_3 L_4
    · intro j30_277 hj30_277
      refine w_ifeq (q := 14) (tgt := 30) hc dX8_same_11 rfl rfl ?_ ?_
      · refine w_sub [0] rfl ?_
        exact hj30_277 q_1.2.1 q_1.2.2
      · refine w_aload_n (q := 15) (i := 0) (j := 0) hc dX8_same_14 rfl rfl rfl ?_
        refine w_lload_n (q := 16) (i := 3) (j := 2) hc dX8_same_15 rfl rfl rfl ?_
        refine w_aload_n (q := 17) (i := 0) (j := 0) hc dX8_same_16 rfl rfl rfl ?_
        refine gf_X8_19 (q := 20) hc dX8_same_17 (k_43 hK) (r_43_7 hR) rfl ?_
        refine w_callV_Wz (q := 23) (st := [.ref 43, .ref 43]) (args := [.long a3, .ref 47]) (p := 43) hc (m_X8_lies hK hR (kB hK (k_47 hK))) dX8_same_20 ml_X8_217 cf_X8_lies iv_X8_lies (k_43 hK) (C := RX8) (T := TX8) (N := 45) rfl rfl (Nat.lt_of_succ_le (Nat.le_of_ble_eq_true rfl)) rfl rfl (Nat.le_of_ble_eq_true rfl) ⟨Nat.le_of_ble_eq_true rfl, Nat.le_of_ble_eq_true rfl⟩ rfl (fun q_2 => ?_)
        refine w_ifeq (q := 26) (tgt := 30) hc dX8_same_23 rfl rfl ?_ ?_
        · refine w_sub [0] rfl ?_
          exact hj30_277 q_2.2.1 q_2.2.2
        · refine w_iconst (q := 27) hc dX8_same_26 ci_0 rfl ?_
          refine w_goto (tgt := 31) hc dX8_same_27 rfl ?_
          refine w_sub [0] rfl ?_
          exact hj31_276 false q_2.2.1 q_2.2.2
set_option maxRecDepth 100000 in
set_option maxHeartbeats 4000000 in
theorem wl_X8_commutes_19 {G : GT Mm} {rm : Nat} (a1 : Nat) (a2 : Nat) (a3 : Nat) (L : ML) (hc : Cx G cX8_commutes yX8_commutes.cls none 1 22) (hq : RetQ G anV meV) (hK : gK G = lK rm) (hR : gR G = lR rm) (hn : gnL G = 5) (ha1 : (lK rm)[a1]? = some (10, 10)) (ha2 : (lK rm)[a2]? = some (10, 10)) (ha3 : (lK rm)[a3]? = some (10, 10)) : ∀ (n : Nat) (v4_3 : Int32) (I_4 : MI), WW G 19 [(0, .ref 43), (1, .ref a1), (2, .ref a2), (3, .ref a3), (4, .int v4_3)] [] I_4 L (f_X8_commutes_19 a1 a2 a3 L n v4_3 I_4) := by
  have hN : ∀ i, Nat.blt i 5 = true → i < gnL G := fun i h => hn ▸ Nat.blt_eq.mp h
  intro n
  induction n with
  | zero => intros; exact w_none _ _ _
  | succ n ih =>
    intros v4_3 I_4
    rw [f_X8_commutes_19]
    refine w_iload (q := 21) (i := 4) (j := 4) hc dX8_commutes_19 rfl rfl ?_
    refine w_bipush (q := 23) hc dX8_commutes_21 cb_10 rfl ?_
    refine w_icmpge (q := 26) (tgt := 52) hc dX8_commutes_23 rfl rfl ?_ ?_
    · exact w_return hc hq dX8_commutes_52 rfl rfl
    · refine w_aload_n (q := 27) (i := 3) (j := 3) hc dX8_commutes_26 rfl rfl rfl ?_
      refine w_iload (q := 29) (i := 4) (j := 4) hc dX8_commutes_27 rfl rfl ?_
      refine w_aload_n (q := 30) (i := 2) (j := 2) hc dX8_commutes_29 rfl rfl rfl ?_
      refine w_aload_n (q := 31) (i := 1) (j := 1) hc dX8_commutes_30 rfl rfl rfl ?_
      refine w_aload_n (q := 32) (i := 0) (j := 0) hc dX8_commutes_31 rfl rfl rfl ?_
      refine gf_X8_28 (q := 35) hc dX8_commutes_32 (k_43 hK) (r_43_10 hR) rfl ?_
      refine w_aload_n (q := 36) (i := 0) (j := 0) hc dX8_commutes_35 rfl rfl rfl ?_
      refine gf_X8_25 (q := 39) hc dX8_commutes_36 (k_43 hK) (r_43_9 hR) rfl ?_
      refine w_iload (q := 41) (i := 4) (j := 4) hc dX8_commutes_39 rfl rfl ?_
      refine w_iald (q := 42) hc dX8_commutes_41 (k_49 hK) rfl ?_
      refine w_iald (q := 43) hc dX8_commutes_42 (k_50 hK) rfl ?_
      refine w_iald (q := 44) hc dX8_commutes_43 (kA hK ha1) rfl ?_
      refine w_iald (q := 45) hc dX8_commutes_44 (kA hK ha2) rfl ?_
      refine w_iast (q := 46) hc dX8_commutes_45 (kA hK ha3) rfl (fun I_5 => ?_)
      refine w_iincB (q := 49) (i := 4) (j := 4) (lv' := fun v4_6 => [(4, .int v4_6), (0, .ref 43), (1, .ref a1), (2, .ref a2), (3, .ref a3)]) hc dX8_commutes_46 rfl ci_1 (hN 4 rfl) (fun _ => rfl) rfl (fun v4_6 => ?_)
      refine w_goto (tgt := 19) hc dX8_commutes_49 rfl ?_
      refine w_sub [1, 2, 3, 4, 0] rfl ?_
      exact ih v4_6 I_5
set_option maxRecDepth 100000 in
set_option maxHeartbeats 4000000 in
theorem m_X8_commutes {l : Launch} {K : KT} {R : MR} {rm : Nat} {a1 : Nat} {a2 : Nat} {a3 : Nat} {I : MI} {L : ML} (hK0 : K = lK rm) (hR0 : R = lR rm) (ha1 : (lK rm)[a1]? = some (10, 10)) (ha2 : (lK rm)[a2]? = some (10, 10)) (ha3 : (lK rm)[a3]? = some (10, 10)) : MFg l yX8_commutes cX8_commutes 5 none 1 22 [.ref 43, .ref a1, .ref a2, .ref a3] K R I L anV meV (f_X8_commutes a1 a2 a3 I L) := by
  refine mf_of (plainFor_of_name (by decide)) (Nat.le_of_ble_eq_true rfl) ?_
  intro G hc _ hK1 hR1 hn hq
  have hK := hK1.trans hK0
  have hR := hR1.trans hR0
  have hN : ∀ i, Nat.blt i 5 = true → i < gnL G := fun i h => hn ▸ Nat.blt_eq.mp h
  unfold f_X8_commutes
  show WW G 0 [(0, .ref 43), (1, .ref a1), (2, .ref a2), (3, .ref a3)] [] I L _
  refine w_aload_n (q := 1) (i := 1) (j := 1) hc dX8_commutes_0 rfl rfl rfl ?_
  refine w_aload_n (q := 2) (i := 0) (j := 0) hc dX8_commutes_1 rfl rfl rfl ?_
  refine gf_X8_25 (q := 5) hc dX8_commutes_2 (k_43 hK) (r_43_9 hR) rfl ?_
  refine w_callS_Wv (q := 8) (st := []) (args := [.ref a1, .ref 49]) hc (m_X8_inverts hK hR (kB hK (kA hK ha1)) (kB hK (k_49 hK))) dX8_commutes_5 ml_X8_130 cf_X8_inverts st_X8_inverts rfl rfl (Nat.le_of_ble_eq_true rfl) ⟨Nat.le_of_ble_eq_true rfl, Nat.le_of_ble_eq_true rfl⟩ rfl (fun q_1 => ?_)
  refine w_aload_n (q := 9) (i := 2) (j := 2) hc dX8_commutes_8 rfl rfl rfl ?_
  refine w_aload_n (q := 10) (i := 0) (j := 0) hc dX8_commutes_9 rfl rfl rfl ?_
  refine gf_X8_28 (q := 13) hc dX8_commutes_10 (k_43 hK) (r_43_10 hR) rfl ?_
  refine w_callS_Wv (q := 16) (st := []) (args := [.ref a2, .ref 50]) hc (m_X8_inverts hK hR (kB hK (kA hK ha2)) (kB hK (k_50 hK))) dX8_commutes_13 ml_X8_130 cf_X8_inverts st_X8_inverts rfl rfl (Nat.le_of_ble_eq_true rfl) ⟨Nat.le_of_ble_eq_true rfl, Nat.le_of_ble_eq_true rfl⟩ rfl (fun q_2 => ?_)
  refine w_iconst (q := 17) hc dX8_commutes_16 ci_0 rfl ?_
  refine w_istore (q := 19) (i := 4) (lv' := [(4, .int 0), (0, .ref 43), (1, .ref a1), (2, .ref a2), (3, .ref a3)]) hc dX8_commutes_17 (hN 4 rfl) rfl rfl ?_
  refine w_sub [1, 2, 3, 4, 0] rfl ?_
  exact wl_X8_commutes_19 a1 a2 a3 q_2.2 hc hq hK hR hn ha1 ha2 ha3 FU 0 q_2.1
set_option maxRecDepth 100000 in
set_option maxHeartbeats 4000000 in
theorem m_X8_commutator {l : Launch} {K : KT} {R : MR} {rm : Nat} {a1 : Int64} {a3 : Int64} {I : MI} {L : ML} (hK0 : K = lK rm) (hR0 : R = lR rm) : MFg l yX8_commutator cX8_commutator 5 (some .long) 2 48 [.ref 43, .long a1, .long a3] K R I L anLW meW (f_X8_commutator a1 a3 I L) := by
  refine mf_of (plainFor_of_name (by decide)) (Nat.le_of_ble_eq_true rfl) ?_
  intro G hc _ hK1 hR1 hn hq
  have hK := hK1.trans hK0
  have hR := hR1.trans hR0
  have hN : ∀ i, Nat.blt i 5 = true → i < gnL G := fun i h => hn ▸ Nat.blt_eq.mp h
  unfold f_X8_commutator
  show WW G 0 [(0, .ref 43), (1, .long a1), (3, .long a3)] [] I L _
  refine w_aload_n (q := 1) (i := 0) (j := 0) hc dX8_commutator_0 rfl rfl rfl ?_
  refine w_aload_n (q := 2) (i := 0) (j := 0) hc dX8_commutator_1 rfl rfl rfl ?_
  refine w_lload_n (q := 3) (i := 1) (j := 1) hc dX8_commutator_2 rfl rfl rfl ?_
  refine w_aload_n (q := 4) (i := 0) (j := 0) hc dX8_commutator_3 rfl rfl rfl ?_
  refine gf_X8_16 (q := 7) hc dX8_commutator_4 (k_43 hK) (r_43_6 hR) rfl ?_
  refine w_callV_Wz (q := 10) (st := [.ref 43]) (args := [.long a1, .ref 46]) (p := 43) hc (m_X8_lies hK hR (kB hK (k_46 hK))) dX8_commutator_7 ml_X8_217 cf_X8_lies iv_X8_lies (k_43 hK) (C := RX8) (T := TX8) (N := 45) rfl rfl (Nat.lt_of_succ_le (Nat.le_of_ble_eq_true rfl)) rfl rfl (Nat.le_of_ble_eq_true rfl) ⟨Nat.le_of_ble_eq_true rfl, Nat.le_of_ble_eq_true rfl⟩ rfl (fun q_1 => ?_)
  refine w_join (fun j30_279 : Bool → MI → ML → Option (Int64 × Mm) => ∀ (s0_5 : Bool) (I_6 : MI) (L_7 : ML), WW G 30 [(0, .ref 43)] [.int (b2i s0_5), .ref 43] I_6 L_7 (j30_279 s0_5 I_6 L_7)) ?_ ?_
  · intro s0_5 I_6 L_7
    refine w_callV_Wz (q := 33) (st := []) (args := [.int (b2i s0_5)]) (p := 43) hc (m_X8_is hK hR) dX8_commutator_30 ml_X8_194 cf_X8_is iv_X8_is (k_43 hK) (C := RX8) (T := TX8) (N := 45) rfl rfl (Nat.lt_of_succ_le (Nat.le_of_ble_eq_true rfl)) rfl rfl (Nat.le_of_ble_eq_true rfl) ⟨Nat.le_of_ble_eq_true rfl, Nat.le_of_ble_eq_true rfl⟩ rfl (fun q_8 => ?_)
    refine w_ifne (q := 36) (tgt := 40) hc dX8_commutator_33 rfl rfl ?_ ?_
    · refine w_ldc2 (q := 39) hc dX8_commutator_36 kl_X8_208 rfl ?_
      exact w_lreturn hc hq dX8_commutator_39 rfl rfl
    · refine w_aload_n (q := 41) (i := 0) (j := 0) hc dX8_commutator_40 rfl rfl rfl ?_
      refine w_aload_n (q := 42) (i := 0) (j := 0) hc dX8_commutator_41 rfl rfl rfl ?_
      refine gf_X8_16 (q := 45) hc dX8_commutator_42 (k_43 hK) (r_43_6 hR) rfl ?_
      refine w_aload_n (q := 46) (i := 0) (j := 0) hc dX8_commutator_45 rfl rfl rfl ?_
      refine gf_X8_19 (q := 49) hc dX8_commutator_46 (k_43 hK) (r_43_7 hR) rfl ?_
      refine w_aload_n (q := 50) (i := 0) (j := 0) hc dX8_commutator_49 rfl rfl rfl ?_
      refine gf_X8_22 (q := 53) hc dX8_commutator_50 (k_43 hK) (r_43_8 hR) rfl ?_
      refine w_callV_Wv (q := 56) (st := []) (args := [.ref 46, .ref 47, .ref 48]) (p := 43) hc (m_X8_commutes hK hR (kB hK (k_46 hK)) (kB hK (k_47 hK)) (kB hK (k_48 hK))) dX8_commutator_53 ml_X8_330 cf_X8_commutes iv_X8_commutes (k_43 hK) (C := RX8) (T := TX8) (N := 45) rfl rfl (Nat.lt_of_succ_le (Nat.le_of_ble_eq_true rfl)) rfl rfl (Nat.le_of_ble_eq_true rfl) ⟨Nat.le_of_ble_eq_true rfl, Nat.le_of_ble_eq_true rfl⟩ rfl (fun q_9 => ?_)
      refine w_aload_n (q := 57) (i := 0) (j := 0) hc dX8_commutator_56 rfl rfl rfl ?_
      refine w_aload_n (q := 58) (i := 0) (j := 0) hc dX8_commutator_57 rfl rfl rfl ?_
      refine gf_X8_22 (q := 61) hc dX8_commutator_58 (k_43 hK) (r_43_8 hR) rfl ?_
      refine w_callV_Rl (q := 64) (st := []) (args := [.ref 48]) (p := 43) hc (m_X8_told hK hR (kB hK (k_48 hK))) dX8_commutator_61 ml_X8_213 cf_X8_told iv_X8_told (k_43 hK) (C := RX8) (T := TX8) (N := 45) rfl rfl (Nat.lt_of_succ_le (Nat.le_of_ble_eq_true rfl)) rfl rfl (Nat.le_of_ble_eq_true rfl) ⟨Nat.le_of_ble_eq_true rfl, Nat.le_of_ble_eq_true rfl⟩ rfl (fun q_10 => ?_)
      exact w_lreturn hc hq dX8_commutator_64 rfl rfl
  · intro j30_279 hj30_279
    refine w_join (fun j29_280 : MI → ML → Option (Int64 × Mm) => ∀ (I_3 : MI) (L_4 : ML), WW G 29 [(0, .ref 43)] [.ref 43] I_3 L_4 (j29_280 I_3 L_4)) ?_ ?_
    · intro I_3 L_4
      refine w_iconst (q := 30) hc dX8_commutator_29 ci_1 rfl ?_
      exact hj30_279 true I_3 L_4
    · intro j29_280 hj29_280
      refine w_ifeq (q := 13) (tgt := 29) hc dX8_commutator_10 rfl rfl ?_ ?_
      · refine w_sub [0] rfl ?_
        exact hj29_280 q_1.2.1 q_1.2.2
      · refine w_aload_n (q := 14) (i := 0) (j := 0) hc dX8_commutator_13 rfl rfl rfl ?_
        refine w_lload_n (q := 15) (i := 3) (j := 2) hc dX8_commutator_14 rfl rfl rfl ?_
        refine w_aload_n (q := 16) (i := 0) (j := 0) hc dX8_commutator_15 rfl rfl rfl ?_
        refine gf_X8_19 (q := 19) hc dX8_commutator_16 (k_43 hK) (r_43_7 hR) rfl ?_
        refine w_callV_Wz (q := 22) (st := [.ref 43]) (args := [.long a3, .ref 47]) (p := 43) hc (m_X8_lies hK hR (kB hK (k_47 hK))) dX8_commutator_19 ml_X8_217 cf_X8_lies iv_X8_lies (k_43 hK) (C := RX8) (T := TX8) (N := 45) rfl rfl (Nat.lt_of_succ_le (Nat.le_of_ble_eq_true rfl)) rfl rfl (Nat.le_of_ble_eq_true rfl) ⟨Nat.le_of_ble_eq_true rfl, Nat.le_of_ble_eq_true rfl⟩ rfl (fun q_2 => ?_)
        refine w_ifeq (q := 25) (tgt := 29) hc dX8_commutator_22 rfl rfl ?_ ?_
        · refine w_sub [0] rfl ?_
          exact hj29_280 q_2.2.1 q_2.2.2
        · refine w_iconst (q := 26) hc dX8_commutator_25 ci_0 rfl ?_
          refine w_goto (tgt := 30) hc dX8_commutator_26 rfl ?_
          refine w_sub [0] rfl ?_
          exact hj30_279 false q_2.2.1 q_2.2.2
set_option maxRecDepth 100000 in
set_option maxHeartbeats 4000000 in
theorem m_X8_turned {l : Launch} {K : KT} {R : MR} {rm : Nat} {a1 : Int64} {a3 : Int64} {I : MI} {L : ML} (hK0 : K = lK rm) (hR0 : R = lR rm) : MFg l yX8_turned cX8_turned 5 (some .long) 2 48 [.ref 43, .long a1, .long a3] K R I L anLW meW (f_X8_turned a1 a3 I L) := by
  refine mf_of (plainFor_of_name (by decide)) (Nat.le_of_ble_eq_true rfl) ?_
  intro G hc _ hK1 hR1 hn hq
  have hK := hK1.trans hK0
  have hR := hR1.trans hR0
  have hN : ∀ i, Nat.blt i 5 = true → i < gnL G := fun i h => hn ▸ Nat.blt_eq.mp h
  unfold f_X8_turned
  show WW G 0 [(0, .ref 43), (1, .long a1), (3, .long a3)] [] I L _
  refine w_aload_n (q := 1) (i := 0) (j := 0) hc dX8_turned_0 rfl rfl rfl ?_
  refine w_aload_n (q := 2) (i := 0) (j := 0) hc dX8_turned_1 rfl rfl rfl ?_
  refine w_lload_n (q := 3) (i := 1) (j := 1) hc dX8_turned_2 rfl rfl rfl ?_
  refine w_aload_n (q := 4) (i := 0) (j := 0) hc dX8_turned_3 rfl rfl rfl ?_
  refine gf_X8_16 (q := 7) hc dX8_turned_4 (k_43 hK) (r_43_6 hR) rfl ?_
  refine w_callV_Wz (q := 10) (st := [.ref 43]) (args := [.long a1, .ref 46]) (p := 43) hc (m_X8_lies hK hR (kB hK (k_46 hK))) dX8_turned_7 ml_X8_217 cf_X8_lies iv_X8_lies (k_43 hK) (C := RX8) (T := TX8) (N := 45) rfl rfl (Nat.lt_of_succ_le (Nat.le_of_ble_eq_true rfl)) rfl rfl (Nat.le_of_ble_eq_true rfl) ⟨Nat.le_of_ble_eq_true rfl, Nat.le_of_ble_eq_true rfl⟩ rfl (fun q_1 => ?_)
  refine w_join (fun j30_281 : Bool → MI → ML → Option (Int64 × Mm) => ∀ (s0_5 : Bool) (I_6 : MI) (L_7 : ML), WW G 30 [(0, .ref 43)] [.int (b2i s0_5), .ref 43] I_6 L_7 (j30_281 s0_5 I_6 L_7)) ?_ ?_
  · intro s0_5 I_6 L_7
    refine w_callV_Wz (q := 33) (st := []) (args := [.int (b2i s0_5)]) (p := 43) hc (m_X8_is hK hR) dX8_turned_30 ml_X8_194 cf_X8_is iv_X8_is (k_43 hK) (C := RX8) (T := TX8) (N := 45) rfl rfl (Nat.lt_of_succ_le (Nat.le_of_ble_eq_true rfl)) rfl rfl (Nat.le_of_ble_eq_true rfl) ⟨Nat.le_of_ble_eq_true rfl, Nat.le_of_ble_eq_true rfl⟩ rfl (fun q_8 => ?_)
    refine w_ifne (q := 36) (tgt := 40) hc dX8_turned_33 rfl rfl ?_ ?_
    · refine w_ldc2 (q := 39) hc dX8_turned_36 kl_X8_208 rfl ?_
      exact w_lreturn hc hq dX8_turned_39 rfl rfl
    · refine w_aload_n (q := 41) (i := 0) (j := 0) hc dX8_turned_40 rfl rfl rfl ?_
      refine w_aload_n (q := 42) (i := 0) (j := 0) hc dX8_turned_41 rfl rfl rfl ?_
      refine gf_X8_16 (q := 45) hc dX8_turned_42 (k_43 hK) (r_43_6 hR) rfl ?_
      refine w_aload_n (q := 46) (i := 0) (j := 0) hc dX8_turned_45 rfl rfl rfl ?_
      refine gf_X8_19 (q := 49) hc dX8_turned_46 (k_43 hK) (r_43_7 hR) rfl ?_
      refine w_aload_n (q := 50) (i := 0) (j := 0) hc dX8_turned_49 rfl rfl rfl ?_
      refine gf_X8_22 (q := 53) hc dX8_turned_50 (k_43 hK) (r_43_8 hR) rfl ?_
      refine w_callV_Wv (q := 56) (st := []) (args := [.ref 46, .ref 47, .ref 48]) (p := 43) hc (m_X8_turns hK hR (kB hK (k_46 hK)) (kB hK (k_47 hK)) (kB hK (k_48 hK))) dX8_turned_53 ml_X8_318 cf_X8_turns iv_X8_turns (k_43 hK) (C := RX8) (T := TX8) (N := 45) rfl rfl (Nat.lt_of_succ_le (Nat.le_of_ble_eq_true rfl)) rfl rfl (Nat.le_of_ble_eq_true rfl) ⟨Nat.le_of_ble_eq_true rfl, Nat.le_of_ble_eq_true rfl⟩ rfl (fun q_9 => ?_)
      refine w_aload_n (q := 57) (i := 0) (j := 0) hc dX8_turned_56 rfl rfl rfl ?_
      refine w_aload_n (q := 58) (i := 0) (j := 0) hc dX8_turned_57 rfl rfl rfl ?_
      refine gf_X8_22 (q := 61) hc dX8_turned_58 (k_43 hK) (r_43_8 hR) rfl ?_
      refine w_callV_Rl (q := 64) (st := []) (args := [.ref 48]) (p := 43) hc (m_X8_told hK hR (kB hK (k_48 hK))) dX8_turned_61 ml_X8_213 cf_X8_told iv_X8_told (k_43 hK) (C := RX8) (T := TX8) (N := 45) rfl rfl (Nat.lt_of_succ_le (Nat.le_of_ble_eq_true rfl)) rfl rfl (Nat.le_of_ble_eq_true rfl) ⟨Nat.le_of_ble_eq_true rfl, Nat.le_of_ble_eq_true rfl⟩ rfl (fun q_10 => ?_)
      exact w_lreturn hc hq dX8_turned_64 rfl rfl
  · intro j30_281 hj30_281
    refine w_join (fun j29_282 : MI → ML → Option (Int64 × Mm) => ∀ (I_3 : MI) (L_4 : ML), WW G 29 [(0, .ref 43)] [.ref 43] I_3 L_4 (j29_282 I_3 L_4)) ?_ ?_
    · intro I_3 L_4
      refine w_iconst (q := 30) hc dX8_turned_29 ci_1 rfl ?_
      exact hj30_281 true I_3 L_4
    · intro j29_282 hj29_282
      refine w_ifeq (q := 13) (tgt := 29) hc dX8_turned_10 rfl rfl ?_ ?_
      · refine w_sub [0] rfl ?_
        exact hj29_282 q_1.2.1 q_1.2.2
      · refine w_aload_n (q := 14) (i := 0) (j := 0) hc dX8_turned_13 rfl rfl rfl ?_
        refine w_lload_n (q := 15) (i := 3) (j := 2) hc dX8_turned_14 rfl rfl rfl ?_
        refine w_aload_n (q := 16) (i := 0) (j := 0) hc dX8_turned_15 rfl rfl rfl ?_
        refine gf_X8_19 (q := 19) hc dX8_turned_16 (k_43 hK) (r_43_7 hR) rfl ?_
        refine w_callV_Wz (q := 22) (st := [.ref 43]) (args := [.long a3, .ref 47]) (p := 43) hc (m_X8_lies hK hR (kB hK (k_47 hK))) dX8_turned_19 ml_X8_217 cf_X8_lies iv_X8_lies (k_43 hK) (C := RX8) (T := TX8) (N := 45) rfl rfl (Nat.lt_of_succ_le (Nat.le_of_ble_eq_true rfl)) rfl rfl (Nat.le_of_ble_eq_true rfl) ⟨Nat.le_of_ble_eq_true rfl, Nat.le_of_ble_eq_true rfl⟩ rfl (fun q_2 => ?_)
        refine w_ifeq (q := 25) (tgt := 29) hc dX8_turned_22 rfl rfl ?_ ?_
        · refine w_sub [0] rfl ?_
          exact hj29_282 q_2.2.1 q_2.2.2
        · refine w_iconst (q := 26) hc dX8_turned_25 ci_0 rfl ?_
          refine w_goto (tgt := 30) hc dX8_turned_26 rfl ?_
          refine w_sub [0] rfl ?_
          exact hj30_281 false q_2.2.1 q_2.2.2
set_option maxRecDepth 100000 in
set_option maxHeartbeats 4000000 in
theorem m_X8_isOwn {l : Launch} {K : KT} {R : MR} {rm : Nat} {a0 : Int32} {I : MI} {L : ML} (hK0 : K = lK rm) (hR0 : R = lR rm) : MFg l yX8_isOwn cX8_isOwn 1 (some .boolean) 0 0 [.int a0] K R I L anZ (meR I L) (f_X8_isOwn a0) := by
  refine mf_of (plainFor_of_name (by decide)) (Nat.le_of_ble_eq_true rfl) ?_
  intro G hc _ hK1 hR1 hn hq
  have hK := hK1.trans hK0
  have hR := hR1.trans hR0
  have hN : ∀ i, Nat.blt i 1 = true → i < gnL G := fun i h => hn ▸ Nat.blt_eq.mp h
  unfold f_X8_isOwn
  show WW G 0 [(0, .int a0)] [] I L _
  refine w_iload_n (q := 1) (i := 0) (j := 0) hc dX8_isOwn_0 rfl rfl rfl ?_
  refine w_bipush (q := 3) hc dX8_isOwn_1 cb_10 rfl ?_
  refine w_idiv (q := 4) hc dX8_isOwn_3  rfl ?_
  refine w_iload_n (q := 5) (i := 0) (j := 0) hc dX8_isOwn_4 rfl rfl rfl ?_
  refine w_bipush (q := 7) hc dX8_isOwn_5 cb_10 rfl ?_
  refine w_irem (q := 8) hc dX8_isOwn_7  rfl ?_
  refine w_icmpeq (q := 11) (tgt := 15) hc dX8_isOwn_8 rfl rfl ?_ ?_
  · refine w_iconst (q := 16) hc dX8_isOwn_15 ci_0 rfl ?_
    exact w_ireturn (v := b2i false) hc hq dX8_isOwn_16 (nar_b2i false) rfl rfl
  · refine w_iconst (q := 12) hc dX8_isOwn_11 ci_1 rfl ?_
    refine w_goto (tgt := 16) hc dX8_isOwn_12 rfl ?_
    exact w_ireturn (v := b2i true) hc hq dX8_isOwn_16 (nar_b2i true) rfl rfl
set_option maxRecDepth 100000 in
set_option maxHeartbeats 4000000 in
theorem wl_X8_copiesSlot_38 {G : GT Mm} {rm : Nat} (v1_8 : Int32) (v2_9 : Int32) (L : ML) (hc : Cx G cX8_copiesSlot yX8_copiesSlot.cls none 0 0) (hq : RetQ G anV meV) (hK : gK G = lK rm) (hR : gR G = lR rm) (hn : gnL G = 4) : ∀ (n : Nat) (v3_10 : Int32) (I_11 : MI), WW G 38 [(0, .ref 43), (1, .int v1_8), (2, .int v2_9), (3, .int v3_10)] [] I_11 L (f_X8_copiesSlot_38 v1_8 v2_9 L n v3_10 I_11) := by
  have hN : ∀ i, Nat.blt i 4 = true → i < gnL G := fun i h => hn ▸ Nat.blt_eq.mp h
  intro n
  induction n with
  | zero => intros; exact w_none _ _ _
  | succ n ih =>
    intros v3_10 I_11
    rw [f_X8_copiesSlot_38]
    refine w_iload_n (q := 39) (i := 3) (j := 3) hc dX8_copiesSlot_38 rfl rfl rfl ?_
    refine w_sipush (q := 42) hc dX8_copiesSlot_39 cs_1000 rfl ?_
    refine w_icmpge (q := 45) (tgt := 75) hc dX8_copiesSlot_42 rfl rfl ?_ ?_
    · exact w_return hc hq dX8_copiesSlot_75 rfl rfl
    · refine w_aload_n (q := 46) (i := 0) (j := 0) hc dX8_copiesSlot_45 rfl rfl rfl ?_
      refine gf_X8_38 (q := 49) hc dX8_copiesSlot_46 (k_43 hK) (r_43_13 hR) rfl ?_
      refine w_sipush (q := 52) hc dX8_copiesSlot_49 cs_1000 rfl ?_
      refine w_iload_n (q := 53) (i := 2) (j := 2) hc dX8_copiesSlot_52 rfl rfl rfl ?_
      refine w_imul (q := 54) hc dX8_copiesSlot_53  rfl ?_
      refine w_iload_n (q := 55) (i := 3) (j := 3) hc dX8_copiesSlot_54 rfl rfl rfl ?_
      refine w_iadd (q := 56) hc dX8_copiesSlot_55  rfl ?_
      refine w_aload_n (q := 57) (i := 0) (j := 0) hc dX8_copiesSlot_56 rfl rfl rfl ?_
      refine gf_X8_38 (q := 60) hc dX8_copiesSlot_57 (k_43 hK) (r_43_13 hR) rfl ?_
      refine w_sipush (q := 63) hc dX8_copiesSlot_60 cs_1000 rfl ?_
      refine w_iload_n (q := 64) (i := 1) (j := 1) hc dX8_copiesSlot_63 rfl rfl rfl ?_
      refine w_imul (q := 65) hc dX8_copiesSlot_64  rfl ?_
      refine w_iload_n (q := 66) (i := 3) (j := 3) hc dX8_copiesSlot_65 rfl rfl rfl ?_
      refine w_iadd (q := 67) hc dX8_copiesSlot_66  rfl ?_
      refine w_iald (q := 68) hc dX8_copiesSlot_67 (k_53 hK) rfl ?_
      refine w_iast (q := 69) hc dX8_copiesSlot_68 (k_53 hK) rfl (fun I_12 => ?_)
      refine w_iincB (q := 72) (i := 3) (j := 3) (lv' := fun v3_13 => [(3, .int v3_13), (0, .ref 43), (1, .int v1_8), (2, .int v2_9)]) hc dX8_copiesSlot_69 rfl ci_1 (hN 3 rfl) (fun _ => rfl) rfl (fun v3_13 => ?_)
      refine w_goto (tgt := 38) hc dX8_copiesSlot_72 rfl ?_
      refine w_sub [1, 2, 3, 0] rfl ?_
      exact ih v3_13 I_12
set_option maxRecDepth 100000 in
set_option maxHeartbeats 4000000 in
theorem wl_X8_copiesSlot_2 {G : GT Mm} {rm : Nat} (v1_1 : Int32) (v2_2 : Int32) (L : ML) (hc : Cx G cX8_copiesSlot yX8_copiesSlot.cls none 0 0) (hq : RetQ G anV meV) (hK : gK G = lK rm) (hR : gR G = lR rm) (hn : gnL G = 4) (k0 : MI → Option Mm) (hk0 : ∀ (I_7 : MI), WW G 36 [(0, .ref 43), (1, .int v1_1), (2, .int v2_2)] [] I_7 L (k0 I_7)) : ∀ (n : Nat) (v3_3 : Int32) (I_4 : MI), WW G 2 [(0, .ref 43), (1, .int v1_1), (2, .int v2_2), (3, .int v3_3)] [] I_4 L (f_X8_copiesSlot_2 v1_1 v2_2 L k0 n v3_3 I_4) := by
  have hN : ∀ i, Nat.blt i 4 = true → i < gnL G := fun i h => hn ▸ Nat.blt_eq.mp h
  intro n
  induction n with
  | zero => intros; exact w_none _ _ _
  | succ n ih =>
    intros v3_3 I_4
    rw [f_X8_copiesSlot_2]
    refine w_iload_n (q := 3) (i := 3) (j := 3) hc dX8_copiesSlot_2 rfl rfl rfl ?_
    refine w_bipush (q := 5) hc dX8_copiesSlot_3 cb_100 rfl ?_
    refine w_icmpge (q := 8) (tgt := 36) hc dX8_copiesSlot_5 rfl rfl ?_ ?_
    · refine w_sub [0, 1, 2] rfl ?_
      exact hk0 I_4
    · refine w_aload_n (q := 9) (i := 0) (j := 0) hc dX8_copiesSlot_8 rfl rfl rfl ?_
      refine gf_X8_34 (q := 12) hc dX8_copiesSlot_9 (k_43 hK) (r_43_12 hR) rfl ?_
      refine w_bipush (q := 14) hc dX8_copiesSlot_12 cb_100 rfl ?_
      refine w_iload_n (q := 15) (i := 2) (j := 2) hc dX8_copiesSlot_14 rfl rfl rfl ?_
      refine w_imul (q := 16) hc dX8_copiesSlot_15  rfl ?_
      refine w_iload_n (q := 17) (i := 3) (j := 3) hc dX8_copiesSlot_16 rfl rfl rfl ?_
      refine w_iadd (q := 18) hc dX8_copiesSlot_17  rfl ?_
      refine w_aload_n (q := 19) (i := 0) (j := 0) hc dX8_copiesSlot_18 rfl rfl rfl ?_
      refine gf_X8_34 (q := 22) hc dX8_copiesSlot_19 (k_43 hK) (r_43_12 hR) rfl ?_
      refine w_bipush (q := 24) hc dX8_copiesSlot_22 cb_100 rfl ?_
      refine w_iload_n (q := 25) (i := 1) (j := 1) hc dX8_copiesSlot_24 rfl rfl rfl ?_
      refine w_imul (q := 26) hc dX8_copiesSlot_25  rfl ?_
      refine w_iload_n (q := 27) (i := 3) (j := 3) hc dX8_copiesSlot_26 rfl rfl rfl ?_
      refine w_iadd (q := 28) hc dX8_copiesSlot_27  rfl ?_
      refine w_zald (q := 29) hc dX8_copiesSlot_28 (k_52 hK) rfl ?_
      refine w_zast (q := 30) hc dX8_copiesSlot_29 (k_52 hK) rfl (fun I_5 => ?_)
      refine w_iincB (q := 33) (i := 3) (j := 3) (lv' := fun v3_6 => [(3, .int v3_6), (0, .ref 43), (1, .int v1_1), (2, .int v2_2)]) hc dX8_copiesSlot_30 rfl ci_1 (hN 3 rfl) (fun _ => rfl) rfl (fun v3_6 => ?_)
      refine w_goto (tgt := 2) hc dX8_copiesSlot_33 rfl ?_
      refine w_sub [1, 2, 3, 0] rfl ?_
      exact ih v3_6 I_5
set_option maxRecDepth 100000 in
set_option maxHeartbeats 4000000 in
theorem m_X8_copiesSlot {l : Launch} {K : KT} {R : MR} {rm : Nat} {a1 : Int32} {a2 : Int32} {I : MI} {L : ML} (hK0 : K = lK rm) (hR0 : R = lR rm) : MFg l yX8_copiesSlot cX8_copiesSlot 4 none 0 0 [.ref 43, .int a1, .int a2] K R I L anV meV (f_X8_copiesSlot a1 a2 I L) := by
  refine mf_of (plainFor_of_name (by decide)) (Nat.le_of_ble_eq_true rfl) ?_
  intro G hc _ hK1 hR1 hn hq
  have hK := hK1.trans hK0
  have hR := hR1.trans hR0
  have hN : ∀ i, Nat.blt i 4 = true → i < gnL G := fun i h => hn ▸ Nat.blt_eq.mp h
  unfold f_X8_copiesSlot
  show WW G 0 [(0, .ref 43), (1, .int a1), (2, .int a2)] [] I L _
  refine w_iconst (q := 1) hc dX8_copiesSlot_0 ci_0 rfl ?_
  refine w_istore_n (q := 2) (i := 3) (lv' := [(3, .int 0), (0, .ref 43), (1, .int a1), (2, .int a2)]) hc dX8_copiesSlot_1 rfl (hN 3 rfl) rfl rfl ?_
  refine w_sub [1, 2, 3, 0] rfl ?_
  refine wl_X8_copiesSlot_2 a1 a2 L hc hq hK hR hn _ ?_ FU 0 I
  intro I_7
  refine w_iconst (q := 37) hc dX8_copiesSlot_36 ci_0 rfl ?_
  refine w_istore_n (q := 38) (i := 3) (lv' := [(3, .int 0), (0, .ref 43), (1, .int a1), (2, .int a2)]) hc dX8_copiesSlot_37 rfl (hN 3 rfl) rfl rfl ?_
  refine w_sub [1, 2, 3, 0] rfl ?_
  exact wl_X8_copiesSlot_38 a1 a2 L hc hq hK hR hn FU 0 I_7
set_option maxRecDepth 100000 in
set_option maxHeartbeats 4000000 in
theorem wl_X8_laysCommutators_44 {G : GT Mm} {rm : Nat} (v1_10 : Int32) (v2_11 : Int32) (v3_12 : Int32) (v4_13 : Int32) (hc : Cx G cX8_laysCommutators yX8_laysCommutators.cls none 6 141) (hq : RetQ G anV meV) (hK : gK G = lK rm) (hR : gR G = lR rm) (hn : gnL G = 7) (k0 : MI → ML → Option Mm) (hk0 : ∀ (I_25 : MI) (L_26 : ML), WW G 146 [(0, .ref 43), (1, .int v1_10), (2, .int v2_11), (3, .int v3_12), (4, .int v4_13)] [] I_25 L_26 (k0 I_25 L_26)) : ∀ (n : Nat) (v5_14 : Int32) (I_15 : MI) (L_16 : ML), WW G 44 [(0, .ref 43), (1, .int v1_10), (2, .int v2_11), (3, .int v3_12), (4, .int v4_13), (5, .int v5_14)] [] I_15 L_16 (f_X8_laysCommutators_44 v1_10 v2_11 v3_12 v4_13 k0 n v5_14 I_15 L_16) := by
  have hN : ∀ i, Nat.blt i 7 = true → i < gnL G := fun i h => hn ▸ Nat.blt_eq.mp h
  intro n
  induction n with
  | zero => intros; exact w_none _ _ _
  | succ n ih =>
    intros v5_14 I_15 L_16
    rw [f_X8_laysCommutators_44]
    refine w_iload (q := 46) (i := 5) (j := 5) hc dX8_laysCommutators_44 rfl rfl ?_
    refine w_bipush (q := 48) hc dX8_laysCommutators_46 cb_100 rfl ?_
    refine w_icmpge (q := 51) (tgt := 146) hc dX8_laysCommutators_48 rfl rfl ?_ ?_
    · refine w_sub [0, 1, 2, 3, 4] rfl ?_
      exact hk0 I_15 L_16
    · refine w_aload_n (q := 52) (i := 0) (j := 0) hc dX8_laysCommutators_51 rfl rfl rfl ?_
      refine gf_X8_34 (q := 55) hc dX8_laysCommutators_52 (k_43 hK) (r_43_12 hR) rfl ?_
      refine w_bipush (q := 57) hc dX8_laysCommutators_55 cb_100 rfl ?_
      refine w_iload_n (q := 58) (i := 2) (j := 2) hc dX8_laysCommutators_57 rfl rfl rfl ?_
      refine w_imul (q := 59) hc dX8_laysCommutators_58  rfl ?_
      refine w_iload (q := 61) (i := 5) (j := 5) hc dX8_laysCommutators_59 rfl rfl ?_
      refine w_iadd (q := 62) hc dX8_laysCommutators_61  rfl ?_
      refine w_zald (q := 63) hc dX8_laysCommutators_62 (k_52 hK) rfl ?_
      refine w_ifeq (q := 66) (tgt := 140) hc dX8_laysCommutators_63 rfl rfl ?_ ?_
      · refine w_iincB (q := 143) (i := 5) (j := 5) (lv' := fun v5_17 => [(5, .int v5_17), (0, .ref 43), (1, .int v1_10), (2, .int v2_11), (3, .int v3_12), (4, .int v4_13)]) hc dX8_laysCommutators_140 rfl ci_1 (hN 5 rfl) (fun _ => rfl) rfl (fun v5_17 => ?_)
        refine w_goto (tgt := 44) hc dX8_laysCommutators_143 rfl ?_
        refine w_sub [1, 2, 3, 4, 5, 0] rfl ?_
        exact ih v5_17 I_15 L_16
      · refine w_iload (q := 68) (i := 5) (j := 5) hc dX8_laysCommutators_66 rfl rfl ?_
        refine w_callS_Rz (q := 71) (st := []) (args := [.int v5_14]) hc (m_X8_isOwn hK hR) dX8_laysCommutators_68 ml_X8_333 cf_X8_isOwn st_X8_isOwn rfl rfl (Nat.le_of_ble_eq_true rfl) ⟨Nat.le_of_ble_eq_true rfl, Nat.le_of_ble_eq_true rfl⟩ rfl (fun q_18 => ?_)
        refine w_ifne (q := 74) (tgt := 77) hc dX8_laysCommutators_71 rfl rfl ?_ ?_
        · refine w_goto (tgt := 140) hc dX8_laysCommutators_74 rfl ?_
          refine w_iincB (q := 143) (i := 5) (j := 5) (lv' := fun v5_24 => [(5, .int v5_24), (0, .ref 43), (1, .int v1_10), (2, .int v2_11), (3, .int v3_12), (4, .int v4_13)]) hc dX8_laysCommutators_140 rfl ci_1 (hN 5 rfl) (fun _ => rfl) rfl (fun v5_24 => ?_)
          refine w_goto (tgt := 44) hc dX8_laysCommutators_143 rfl ?_
          refine w_sub [1, 2, 3, 4, 5, 0] rfl ?_
          exact ih v5_24 I_15 L_16
        · refine w_aload_n (q := 78) (i := 0) (j := 0) hc dX8_laysCommutators_77 rfl rfl rfl ?_
          refine w_iload_n (q := 79) (i := 1) (j := 1) hc dX8_laysCommutators_78 rfl rfl rfl ?_
          refine w_iload (q := 81) (i := 4) (j := 4) hc dX8_laysCommutators_79 rfl rfl ?_
          refine w_bipush (q := 83) hc dX8_laysCommutators_81 cb_10 rfl ?_
          refine w_idiv (q := 84) hc dX8_laysCommutators_83  rfl ?_
          refine w_iload (q := 86) (i := 4) (j := 4) hc dX8_laysCommutators_84 rfl rfl ?_
          refine w_bipush (q := 88) hc dX8_laysCommutators_86 cb_10 rfl ?_
          refine w_irem (q := 89) hc dX8_laysCommutators_88  rfl ?_
          refine w_aload_n (q := 90) (i := 0) (j := 0) hc dX8_laysCommutators_89 rfl rfl rfl ?_
          refine gf_X8_16 (q := 93) hc dX8_laysCommutators_90 (k_43 hK) (r_43_6 hR) rfl ?_
          refine w_callV_Wv (q := 96) (st := []) (args := [.int v1_10, .int (v4_13 / 10), .int (irem v4_13 10), .ref 46]) (p := 43) hc (m_X8_laysCell hK hR (kB hK (k_46 hK))) dX8_laysCommutators_93 ml_X8_134 cf_X8_laysCell iv_X8_laysCell (k_43 hK) (C := RX8) (T := TX8) (N := 45) rfl rfl (Nat.lt_of_succ_le (Nat.le_of_ble_eq_true rfl)) rfl rfl (Nat.le_of_ble_eq_true rfl) ⟨Nat.le_of_ble_eq_true rfl, Nat.le_of_ble_eq_true rfl⟩ rfl (fun q_19 => ?_)
          refine w_aload_n (q := 97) (i := 0) (j := 0) hc dX8_laysCommutators_96 rfl rfl rfl ?_
          refine w_iload_n (q := 98) (i := 2) (j := 2) hc dX8_laysCommutators_97 rfl rfl rfl ?_
          refine w_iload (q := 100) (i := 5) (j := 5) hc dX8_laysCommutators_98 rfl rfl ?_
          refine w_bipush (q := 102) hc dX8_laysCommutators_100 cb_10 rfl ?_
          refine w_idiv (q := 103) hc dX8_laysCommutators_102  rfl ?_
          refine w_iload (q := 105) (i := 5) (j := 5) hc dX8_laysCommutators_103 rfl rfl ?_
          refine w_bipush (q := 107) hc dX8_laysCommutators_105 cb_10 rfl ?_
          refine w_irem (q := 108) hc dX8_laysCommutators_107  rfl ?_
          refine w_aload_n (q := 109) (i := 0) (j := 0) hc dX8_laysCommutators_108 rfl rfl rfl ?_
          refine gf_X8_19 (q := 112) hc dX8_laysCommutators_109 (k_43 hK) (r_43_7 hR) rfl ?_
          refine w_callV_Wv (q := 115) (st := []) (args := [.int v2_11, .int (v5_14 / 10), .int (irem v5_14 10), .ref 47]) (p := 43) hc (m_X8_laysCell hK hR (kB hK (k_47 hK))) dX8_laysCommutators_112 ml_X8_134 cf_X8_laysCell iv_X8_laysCell (k_43 hK) (C := RX8) (T := TX8) (N := 45) rfl rfl (Nat.lt_of_succ_le (Nat.le_of_ble_eq_true rfl)) rfl rfl (Nat.le_of_ble_eq_true rfl) ⟨Nat.le_of_ble_eq_true rfl, Nat.le_of_ble_eq_true rfl⟩ rfl (fun q_20 => ?_)
          refine w_aload_n (q := 116) (i := 0) (j := 0) hc dX8_laysCommutators_115 rfl rfl rfl ?_
          refine w_aload_n (q := 117) (i := 0) (j := 0) hc dX8_laysCommutators_116 rfl rfl rfl ?_
          refine gf_X8_16 (q := 120) hc dX8_laysCommutators_117 (k_43 hK) (r_43_6 hR) rfl ?_
          refine w_aload_n (q := 121) (i := 0) (j := 0) hc dX8_laysCommutators_120 rfl rfl rfl ?_
          refine gf_X8_19 (q := 124) hc dX8_laysCommutators_121 (k_43 hK) (r_43_7 hR) rfl ?_
          refine w_aload_n (q := 125) (i := 0) (j := 0) hc dX8_laysCommutators_124 rfl rfl rfl ?_
          refine gf_X8_22 (q := 128) hc dX8_laysCommutators_125 (k_43 hK) (r_43_8 hR) rfl ?_
          refine w_callV_Wv (q := 131) (st := []) (args := [.ref 46, .ref 47, .ref 48]) (p := 43) hc (m_X8_commutes hK hR (kB hK (k_46 hK)) (kB hK (k_47 hK)) (kB hK (k_48 hK))) dX8_laysCommutators_128 ml_X8_330 cf_X8_commutes iv_X8_commutes (k_43 hK) (C := RX8) (T := TX8) (N := 45) rfl rfl (Nat.lt_of_succ_le (Nat.le_of_ble_eq_true rfl)) rfl rfl (Nat.le_of_ble_eq_true rfl) ⟨Nat.le_of_ble_eq_true rfl, Nat.le_of_ble_eq_true rfl⟩ rfl (fun q_21 => ?_)
          refine w_aload_n (q := 132) (i := 0) (j := 0) hc dX8_laysCommutators_131 rfl rfl rfl ?_
          refine w_iload_n (q := 133) (i := 3) (j := 3) hc dX8_laysCommutators_132 rfl rfl rfl ?_
          refine w_aload_n (q := 134) (i := 0) (j := 0) hc dX8_laysCommutators_133 rfl rfl rfl ?_
          refine gf_X8_22 (q := 137) hc dX8_laysCommutators_134 (k_43 hK) (r_43_8 hR) rfl ?_
          refine w_callV_Wv (q := 140) (st := []) (args := [.int v3_12, .ref 48]) (p := 43) hc (m_X8_adds hK hR (kB hK (k_48 hK))) dX8_laysCommutators_137 ml_X8_161 cf_X8_adds iv_X8_adds (k_43 hK) (C := RX8) (T := TX8) (N := 45) rfl rfl (Nat.lt_of_succ_le (Nat.le_of_ble_eq_true rfl)) rfl rfl (Nat.le_of_ble_eq_true rfl) ⟨Nat.le_of_ble_eq_true rfl, Nat.le_of_ble_eq_true rfl⟩ rfl (fun q_22 => ?_)
          refine w_iincB (q := 143) (i := 5) (j := 5) (lv' := fun v5_23 => [(5, .int v5_23), (0, .ref 43), (1, .int v1_10), (2, .int v2_11), (3, .int v3_12), (4, .int v4_13)]) hc dX8_laysCommutators_140 rfl ci_1 (hN 5 rfl) (fun _ => rfl) rfl (fun v5_23 => ?_)
          refine w_goto (tgt := 44) hc dX8_laysCommutators_143 rfl ?_
          refine w_sub [1, 2, 3, 4, 5, 0] rfl ?_
          exact ih v5_23 q_22.1 q_22.2
set_option maxRecDepth 100000 in
set_option maxHeartbeats 4000000 in
theorem wl_X8_laysCommutators_202 {G : GT Mm} {rm : Nat} (v2_44 : Int32) (v3_45 : Int32) (v5_47 : Int32) (hc : Cx G cX8_laysCommutators yX8_laysCommutators.cls none 6 141) (hq : RetQ G anV meV) (hK : gK G = lK rm) (hR : gR G = lR rm) (hn : gnL G = 7) (k0 : Int32 → MI → ML → Option Mm) (hk0 : ∀ (v4_61 : Int32) (I_62 : MI) (L_63 : ML), WW G 322 [(0, .ref 43), (2, .int v2_44), (3, .int v3_45), (4, .int v4_61), (5, .int v5_47)] [] I_62 L_63 (k0 v4_61 I_62 L_63)) : ∀ (n : Nat) (v4_46 : Int32) (v6_48 : Int32) (I_49 : MI) (L_50 : ML), WW G 202 [(0, .ref 43), (2, .int v2_44), (3, .int v3_45), (4, .int v4_46), (5, .int v5_47), (6, .int v6_48)] [] I_49 L_50 (f_X8_laysCommutators_202 v2_44 v3_45 v5_47 k0 n v4_46 v6_48 I_49 L_50) := by
  have hN : ∀ i, Nat.blt i 7 = true → i < gnL G := fun i h => hn ▸ Nat.blt_eq.mp h
  intro n
  induction n with
  | zero => intros; exact w_none _ _ _
  | succ n ih =>
    intros v4_46 v6_48 I_49 L_50
    rw [f_X8_laysCommutators_202]
    refine w_iload (q := 204) (i := 6) (j := 5) hc dX8_laysCommutators_202 rfl rfl ?_
    refine w_bipush (q := 206) hc dX8_laysCommutators_204 cb_100 rfl ?_
    refine w_icmpge (q := 209) (tgt := 322) hc dX8_laysCommutators_206 rfl rfl ?_ ?_
    · refine w_sub [0, 1, 2, 3, 4] rfl ?_
      exact hk0 v4_46 I_49 L_50
    · refine w_aload_n (q := 210) (i := 0) (j := 0) hc dX8_laysCommutators_209 rfl rfl rfl ?_
      refine gf_X8_34 (q := 213) hc dX8_laysCommutators_210 (k_43 hK) (r_43_12 hR) rfl ?_
      refine w_bipush (q := 215) hc dX8_laysCommutators_213 cb_100 rfl ?_
      refine w_iload_n (q := 216) (i := 2) (j := 1) hc dX8_laysCommutators_215 rfl rfl rfl ?_
      refine w_imul (q := 217) hc dX8_laysCommutators_216  rfl ?_
      refine w_iload (q := 219) (i := 6) (j := 5) hc dX8_laysCommutators_217 rfl rfl ?_
      refine w_iadd (q := 220) hc dX8_laysCommutators_219  rfl ?_
      refine w_zald (q := 221) hc dX8_laysCommutators_220 (k_52 hK) rfl ?_
      refine w_ifeq (q := 224) (tgt := 316) hc dX8_laysCommutators_221 rfl rfl ?_ ?_
      · refine w_iincB (q := 319) (i := 6) (j := 5) (lv' := fun v6_51 => [(6, .int v6_51), (0, .ref 43), (2, .int v2_44), (3, .int v3_45), (4, .int v4_46), (5, .int v5_47)]) hc dX8_laysCommutators_316 rfl ci_1 (hN 6 rfl) (fun _ => rfl) rfl (fun v6_51 => ?_)
        refine w_goto (tgt := 202) hc dX8_laysCommutators_319 rfl ?_
        refine w_sub [1, 2, 3, 4, 5, 0] rfl ?_
        exact ih v4_46 v6_51 I_49 L_50
      · refine w_iload (q := 226) (i := 6) (j := 5) hc dX8_laysCommutators_224 rfl rfl ?_
        refine w_callS_Rz (q := 229) (st := []) (args := [.int v6_48]) hc (m_X8_isOwn hK hR) dX8_laysCommutators_226 ml_X8_333 cf_X8_isOwn st_X8_isOwn rfl rfl (Nat.le_of_ble_eq_true rfl) ⟨Nat.le_of_ble_eq_true rfl, Nat.le_of_ble_eq_true rfl⟩ rfl (fun q_52 => ?_)
        refine w_ifne (q := 232) (tgt := 235) hc dX8_laysCommutators_229 rfl rfl ?_ ?_
        · refine w_goto (tgt := 316) hc dX8_laysCommutators_232 rfl ?_
          refine w_iincB (q := 319) (i := 6) (j := 5) (lv' := fun v6_60 => [(6, .int v6_60), (0, .ref 43), (2, .int v2_44), (3, .int v3_45), (4, .int v4_46), (5, .int v5_47)]) hc dX8_laysCommutators_316 rfl ci_1 (hN 6 rfl) (fun _ => rfl) rfl (fun v6_60 => ?_)
          refine w_goto (tgt := 202) hc dX8_laysCommutators_319 rfl ?_
          refine w_sub [1, 2, 3, 4, 5, 0] rfl ?_
          exact ih v4_46 v6_60 I_49 L_50
        · refine w_aload_n (q := 236) (i := 0) (j := 0) hc dX8_laysCommutators_235 rfl rfl rfl ?_
          refine w_iload_n (q := 237) (i := 3) (j := 2) hc dX8_laysCommutators_236 rfl rfl rfl ?_
          refine w_iload (q := 239) (i := 5) (j := 4) hc dX8_laysCommutators_237 rfl rfl ?_
          refine w_bipush (q := 241) hc dX8_laysCommutators_239 cb_10 rfl ?_
          refine w_idiv (q := 242) hc dX8_laysCommutators_241  rfl ?_
          refine w_iload (q := 244) (i := 5) (j := 4) hc dX8_laysCommutators_242 rfl rfl ?_
          refine w_bipush (q := 246) hc dX8_laysCommutators_244 cb_10 rfl ?_
          refine w_irem (q := 247) hc dX8_laysCommutators_246  rfl ?_
          refine w_aload_n (q := 248) (i := 0) (j := 0) hc dX8_laysCommutators_247 rfl rfl rfl ?_
          refine gf_X8_16 (q := 251) hc dX8_laysCommutators_248 (k_43 hK) (r_43_6 hR) rfl ?_
          refine w_callV_Wv (q := 254) (st := []) (args := [.int v3_45, .int (v5_47 / 10), .int (irem v5_47 10), .ref 46]) (p := 43) hc (m_X8_laysCell hK hR (kB hK (k_46 hK))) dX8_laysCommutators_251 ml_X8_134 cf_X8_laysCell iv_X8_laysCell (k_43 hK) (C := RX8) (T := TX8) (N := 45) rfl rfl (Nat.lt_of_succ_le (Nat.le_of_ble_eq_true rfl)) rfl rfl (Nat.le_of_ble_eq_true rfl) ⟨Nat.le_of_ble_eq_true rfl, Nat.le_of_ble_eq_true rfl⟩ rfl (fun q_53 => ?_)
          refine w_aload_n (q := 255) (i := 0) (j := 0) hc dX8_laysCommutators_254 rfl rfl rfl ?_
          refine w_iload_n (q := 256) (i := 2) (j := 1) hc dX8_laysCommutators_255 rfl rfl rfl ?_
          refine w_iload (q := 258) (i := 6) (j := 5) hc dX8_laysCommutators_256 rfl rfl ?_
          refine w_bipush (q := 260) hc dX8_laysCommutators_258 cb_10 rfl ?_
          refine w_idiv (q := 261) hc dX8_laysCommutators_260  rfl ?_
          refine w_iload (q := 263) (i := 6) (j := 5) hc dX8_laysCommutators_261 rfl rfl ?_
          refine w_bipush (q := 265) hc dX8_laysCommutators_263 cb_10 rfl ?_
          refine w_irem (q := 266) hc dX8_laysCommutators_265  rfl ?_
          refine w_aload_n (q := 267) (i := 0) (j := 0) hc dX8_laysCommutators_266 rfl rfl rfl ?_
          refine gf_X8_19 (q := 270) hc dX8_laysCommutators_267 (k_43 hK) (r_43_7 hR) rfl ?_
          refine w_callV_Wv (q := 273) (st := []) (args := [.int v2_44, .int (v6_48 / 10), .int (irem v6_48 10), .ref 47]) (p := 43) hc (m_X8_laysCell hK hR (kB hK (k_47 hK))) dX8_laysCommutators_270 ml_X8_134 cf_X8_laysCell iv_X8_laysCell (k_43 hK) (C := RX8) (T := TX8) (N := 45) rfl rfl (Nat.lt_of_succ_le (Nat.le_of_ble_eq_true rfl)) rfl rfl (Nat.le_of_ble_eq_true rfl) ⟨Nat.le_of_ble_eq_true rfl, Nat.le_of_ble_eq_true rfl⟩ rfl (fun q_54 => ?_)
          refine w_aload_n (q := 274) (i := 0) (j := 0) hc dX8_laysCommutators_273 rfl rfl rfl ?_
          refine w_aload_n (q := 275) (i := 0) (j := 0) hc dX8_laysCommutators_274 rfl rfl rfl ?_
          refine gf_X8_16 (q := 278) hc dX8_laysCommutators_275 (k_43 hK) (r_43_6 hR) rfl ?_
          refine w_aload_n (q := 279) (i := 0) (j := 0) hc dX8_laysCommutators_278 rfl rfl rfl ?_
          refine gf_X8_19 (q := 282) hc dX8_laysCommutators_279 (k_43 hK) (r_43_7 hR) rfl ?_
          refine w_aload_n (q := 283) (i := 0) (j := 0) hc dX8_laysCommutators_282 rfl rfl rfl ?_
          refine gf_X8_22 (q := 286) hc dX8_laysCommutators_283 (k_43 hK) (r_43_8 hR) rfl ?_
          refine w_callV_Wv (q := 289) (st := []) (args := [.ref 46, .ref 47, .ref 48]) (p := 43) hc (m_X8_turns hK hR (kB hK (k_46 hK)) (kB hK (k_47 hK)) (kB hK (k_48 hK))) dX8_laysCommutators_286 ml_X8_318 cf_X8_turns iv_X8_turns (k_43 hK) (C := RX8) (T := TX8) (N := 45) rfl rfl (Nat.lt_of_succ_le (Nat.le_of_ble_eq_true rfl)) rfl rfl (Nat.le_of_ble_eq_true rfl) ⟨Nat.le_of_ble_eq_true rfl, Nat.le_of_ble_eq_true rfl⟩ rfl (fun q_55 => ?_)
          refine w_aload_n (q := 290) (i := 0) (j := 0) hc dX8_laysCommutators_289 rfl rfl rfl ?_
          refine w_iload_n (q := 291) (i := 3) (j := 2) hc dX8_laysCommutators_290 rfl rfl rfl ?_
          refine w_aload_n (q := 292) (i := 0) (j := 0) hc dX8_laysCommutators_291 rfl rfl rfl ?_
          refine gf_X8_22 (q := 295) hc dX8_laysCommutators_292 (k_43 hK) (r_43_8 hR) rfl ?_
          refine w_callV_Wz (q := 298) (st := []) (args := [.int v3_45, .ref 48]) (p := 43) hc (m_X8_isMember hK hR (kB hK (k_48 hK))) dX8_laysCommutators_295 ml_X8_275 cf_X8_isMember iv_X8_isMember (k_43 hK) (C := RX8) (T := TX8) (N := 45) rfl rfl (Nat.lt_of_succ_le (Nat.le_of_ble_eq_true rfl)) rfl rfl (Nat.le_of_ble_eq_true rfl) ⟨Nat.le_of_ble_eq_true rfl, Nat.le_of_ble_eq_true rfl⟩ rfl (fun q_56 => ?_)
          refine w_ifeq (q := 301) (tgt := 304) hc dX8_laysCommutators_298 rfl rfl ?_ ?_
          · refine w_aload_n (q := 305) (i := 0) (j := 0) hc dX8_laysCommutators_304 rfl rfl rfl ?_
            refine w_iload_n (q := 306) (i := 3) (j := 2) hc dX8_laysCommutators_305 rfl rfl rfl ?_
            refine w_aload_n (q := 307) (i := 0) (j := 0) hc dX8_laysCommutators_306 rfl rfl rfl ?_
            refine gf_X8_22 (q := 310) hc dX8_laysCommutators_307 (k_43 hK) (r_43_8 hR) rfl ?_
            refine w_callV_Wv (q := 313) (st := []) (args := [.int v3_45, .ref 48]) (p := 43) hc (m_X8_adds hK hR (kB hK (k_48 hK))) dX8_laysCommutators_310 ml_X8_161 cf_X8_adds iv_X8_adds (k_43 hK) (C := RX8) (T := TX8) (N := 45) rfl rfl (Nat.lt_of_succ_le (Nat.le_of_ble_eq_true rfl)) rfl rfl (Nat.le_of_ble_eq_true rfl) ⟨Nat.le_of_ble_eq_true rfl, Nat.le_of_ble_eq_true rfl⟩ rfl (fun q_57 => ?_)
            refine w_iconst (q := 314) hc dX8_laysCommutators_313 ci_1 rfl ?_
            refine w_istore (q := 316) (i := 4) (lv' := [(4, .int 1), (0, .ref 43), (2, .int v2_44), (3, .int v3_45), (5, .int v5_47), (6, .int v6_48)]) hc dX8_laysCommutators_314 (hN 4 rfl) rfl rfl ?_
            refine w_iincB (q := 319) (i := 6) (j := 5) (lv' := fun v6_58 => [(6, .int v6_58), (4, .int 1), (0, .ref 43), (2, .int v2_44), (3, .int v3_45), (5, .int v5_47)]) hc dX8_laysCommutators_316 rfl ci_1 (hN 6 rfl) (fun _ => rfl) rfl (fun v6_58 => ?_)
            refine w_goto (tgt := 202) hc dX8_laysCommutators_319 rfl ?_
            refine w_sub [2, 3, 4, 1, 5, 0] rfl ?_
            exact ih 1 v6_58 q_57.1 q_57.2
          · refine w_goto (tgt := 316) hc dX8_laysCommutators_301 rfl ?_
            refine w_iincB (q := 319) (i := 6) (j := 5) (lv' := fun v6_59 => [(6, .int v6_59), (0, .ref 43), (2, .int v2_44), (3, .int v3_45), (4, .int v4_46), (5, .int v5_47)]) hc dX8_laysCommutators_316 rfl ci_1 (hN 6 rfl) (fun _ => rfl) rfl (fun v6_59 => ?_)
            refine w_goto (tgt := 202) hc dX8_laysCommutators_319 rfl ?_
            refine w_sub [1, 2, 3, 4, 5, 0] rfl ?_
            exact ih v4_46 v6_59 q_56.2.1 q_56.2.2
set_option maxRecDepth 100000 in
set_option maxHeartbeats 4000000 in
theorem wl_X8_laysCommutators_166 {G : GT Mm} {rm : Nat} (v2_36 : Int32) (v3_37 : Int32) (hc : Cx G cX8_laysCommutators yX8_laysCommutators.cls none 6 141) (hq : RetQ G anV meV) (hK : gK G = lK rm) (hR : gR G = lR rm) (hn : gnL G = 7) (k0 : Int32 → MI → ML → Option Mm) (hk0 : ∀ (v4_66 : Int32) (I_67 : MI) (L_68 : ML), WW G 328 [(0, .ref 43), (2, .int v2_36), (3, .int v3_37), (4, .int v4_66)] [] I_67 L_68 (k0 v4_66 I_67 L_68)) : ∀ (n : Nat) (v4_38 : Int32) (v5_39 : Int32) (I_40 : MI) (L_41 : ML), WW G 166 [(0, .ref 43), (2, .int v2_36), (3, .int v3_37), (4, .int v4_38), (5, .int v5_39)] [] I_40 L_41 (f_X8_laysCommutators_166 v2_36 v3_37 k0 n v4_38 v5_39 I_40 L_41) := by
  have hN : ∀ i, Nat.blt i 7 = true → i < gnL G := fun i h => hn ▸ Nat.blt_eq.mp h
  intro n
  induction n with
  | zero => intros; exact w_none _ _ _
  | succ n ih =>
    intros v4_38 v5_39 I_40 L_41
    rw [f_X8_laysCommutators_166]
    refine w_iload (q := 168) (i := 5) (j := 4) hc dX8_laysCommutators_166 rfl rfl ?_
    refine w_bipush (q := 170) hc dX8_laysCommutators_168 cb_100 rfl ?_
    refine w_icmpge (q := 173) (tgt := 328) hc dX8_laysCommutators_170 rfl rfl ?_ ?_
    · refine w_sub [0, 1, 2, 3] rfl ?_
      exact hk0 v4_38 I_40 L_41
    · refine w_aload_n (q := 174) (i := 0) (j := 0) hc dX8_laysCommutators_173 rfl rfl rfl ?_
      refine gf_X8_34 (q := 177) hc dX8_laysCommutators_174 (k_43 hK) (r_43_12 hR) rfl ?_
      refine w_bipush (q := 179) hc dX8_laysCommutators_177 cb_100 rfl ?_
      refine w_iload_n (q := 180) (i := 3) (j := 2) hc dX8_laysCommutators_179 rfl rfl rfl ?_
      refine w_imul (q := 181) hc dX8_laysCommutators_180  rfl ?_
      refine w_iload (q := 183) (i := 5) (j := 4) hc dX8_laysCommutators_181 rfl rfl ?_
      refine w_iadd (q := 184) hc dX8_laysCommutators_183  rfl ?_
      refine w_zald (q := 185) hc dX8_laysCommutators_184 (k_52 hK) rfl ?_
      refine w_ifeq (q := 188) (tgt := 322) hc dX8_laysCommutators_185 rfl rfl ?_ ?_
      · refine w_iincB (q := 325) (i := 5) (j := 4) (lv' := fun v5_42 => [(5, .int v5_42), (0, .ref 43), (2, .int v2_36), (3, .int v3_37), (4, .int v4_38)]) hc dX8_laysCommutators_322 rfl ci_1 (hN 5 rfl) (fun _ => rfl) rfl (fun v5_42 => ?_)
        refine w_goto (tgt := 166) hc dX8_laysCommutators_325 rfl ?_
        refine w_sub [1, 2, 3, 4, 0] rfl ?_
        exact ih v4_38 v5_42 I_40 L_41
      · refine w_iload (q := 190) (i := 5) (j := 4) hc dX8_laysCommutators_188 rfl rfl ?_
        refine w_callS_Rz (q := 193) (st := []) (args := [.int v5_39]) hc (m_X8_isOwn hK hR) dX8_laysCommutators_190 ml_X8_333 cf_X8_isOwn st_X8_isOwn rfl rfl (Nat.le_of_ble_eq_true rfl) ⟨Nat.le_of_ble_eq_true rfl, Nat.le_of_ble_eq_true rfl⟩ rfl (fun q_43 => ?_)
        refine w_ifne (q := 196) (tgt := 199) hc dX8_laysCommutators_193 rfl rfl ?_ ?_
        · refine w_goto (tgt := 322) hc dX8_laysCommutators_196 rfl ?_
          refine w_iincB (q := 325) (i := 5) (j := 4) (lv' := fun v5_65 => [(5, .int v5_65), (0, .ref 43), (2, .int v2_36), (3, .int v3_37), (4, .int v4_38)]) hc dX8_laysCommutators_322 rfl ci_1 (hN 5 rfl) (fun _ => rfl) rfl (fun v5_65 => ?_)
          refine w_goto (tgt := 166) hc dX8_laysCommutators_325 rfl ?_
          refine w_sub [1, 2, 3, 4, 0] rfl ?_
          exact ih v4_38 v5_65 I_40 L_41
        · refine w_iconst (q := 200) hc dX8_laysCommutators_199 ci_0 rfl ?_
          refine w_istore (q := 202) (i := 6) (lv' := [(6, .int 0), (0, .ref 43), (2, .int v2_36), (3, .int v3_37), (4, .int v4_38), (5, .int v5_39)]) hc dX8_laysCommutators_200 (hN 6 rfl) rfl rfl ?_
          refine w_sub [1, 2, 3, 4, 5, 0] rfl ?_
          refine wl_X8_laysCommutators_202 v2_36 v3_37 v5_39 hc hq hK hR hn _ ?_ FU v4_38 0 I_40 L_41
          intro v4_61 I_62 L_63
          refine w_iincB (q := 325) (i := 5) (j := 4) (lv' := fun v5_64 => [(5, .int v5_64), (0, .ref 43), (2, .int v2_36), (3, .int v3_37), (4, .int v4_61)]) hc dX8_laysCommutators_322 rfl ci_1 (hN 5 rfl) (fun _ => rfl) rfl (fun v5_64 => ?_)
          refine w_goto (tgt := 166) hc dX8_laysCommutators_325 rfl ?_
          refine w_sub [1, 2, 3, 4, 0] rfl ?_
          exact ih v4_61 v5_64 I_62 L_63
set_option maxRecDepth 100000 in
set_option maxHeartbeats 4000000 in
theorem wl_X8_laysCommutators_155 {G : GT Mm} {rm : Nat} (v2_31 : Int32) (v3_32 : Int32) (hc : Cx G cX8_laysCommutators yX8_laysCommutators.cls none 6 141) (hq : RetQ G anV meV) (hK : gK G = lK rm) (hR : gR G = lR rm) (hn : gnL G = 7) : ∀ (n : Nat) (v4_33 : Int32) (I_34 : MI) (L_35 : ML), WW G 155 [(0, .ref 43), (2, .int v2_31), (3, .int v3_32), (4, .int v4_33)] [] I_34 L_35 (f_X8_laysCommutators_155 v2_31 v3_32 n v4_33 I_34 L_35) := by
  have hN : ∀ i, Nat.blt i 7 = true → i < gnL G := fun i h => hn ▸ Nat.blt_eq.mp h
  intro n
  induction n with
  | zero => intros; exact w_none _ _ _
  | succ n ih =>
    intros v4_33 I_34 L_35
    rw [f_X8_laysCommutators_155]
    refine w_iload (q := 157) (i := 4) (j := 3) hc dX8_laysCommutators_155 rfl rfl ?_
    refine w_ifeq (q := 160) (tgt := 331) hc dX8_laysCommutators_157 rfl rfl ?_ ?_
    · exact w_return hc hq dX8_laysCommutators_331 rfl rfl
    · refine w_iconst (q := 161) hc dX8_laysCommutators_160 ci_0 rfl ?_
      refine w_istore (q := 163) (i := 4) (lv' := [(4, .int 0), (0, .ref 43), (2, .int v2_31), (3, .int v3_32)]) hc dX8_laysCommutators_161 (hN 4 rfl) rfl rfl ?_
      refine w_iconst (q := 164) hc dX8_laysCommutators_163 ci_0 rfl ?_
      refine w_istore (q := 166) (i := 5) (lv' := [(5, .int 0), (4, .int 0), (0, .ref 43), (2, .int v2_31), (3, .int v3_32)]) hc dX8_laysCommutators_164 (hN 5 rfl) rfl rfl ?_
      refine w_sub [2, 3, 4, 1, 0] rfl ?_
      refine wl_X8_laysCommutators_166 v2_31 v3_32 hc hq hK hR hn _ ?_ FU 0 0 I_34 L_35
      intro v4_66 I_67 L_68
      refine w_goto (tgt := 155) hc dX8_laysCommutators_328 rfl ?_
      exact ih v4_66 I_67 L_68
set_option maxRecDepth 100000 in
set_option maxHeartbeats 4000000 in
theorem wl_X8_laysCommutators_8 {G : GT Mm} {rm : Nat} (v1_2 : Int32) (v2_3 : Int32) (v3_4 : Int32) (hc : Cx G cX8_laysCommutators yX8_laysCommutators.cls none 6 141) (hq : RetQ G anV meV) (hK : gK G = lK rm) (hR : gR G = lR rm) (hn : gnL G = 7) (k0 : MI → ML → Option Mm) (hk0 : ∀ (I_29 : MI) (L_30 : ML), WW G 152 [(0, .ref 43), (2, .int v2_3), (3, .int v3_4)] [] I_29 L_30 (k0 I_29 L_30)) : ∀ (n : Nat) (v4_5 : Int32) (I_6 : MI) (L_7 : ML), WW G 8 [(0, .ref 43), (1, .int v1_2), (2, .int v2_3), (3, .int v3_4), (4, .int v4_5)] [] I_6 L_7 (f_X8_laysCommutators_8 v1_2 v2_3 v3_4 k0 n v4_5 I_6 L_7) := by
  have hN : ∀ i, Nat.blt i 7 = true → i < gnL G := fun i h => hn ▸ Nat.blt_eq.mp h
  intro n
  induction n with
  | zero => intros; exact w_none _ _ _
  | succ n ih =>
    intros v4_5 I_6 L_7
    rw [f_X8_laysCommutators_8]
    refine w_iload (q := 10) (i := 4) (j := 4) hc dX8_laysCommutators_8 rfl rfl ?_
    refine w_bipush (q := 12) hc dX8_laysCommutators_10 cb_100 rfl ?_
    refine w_icmpge (q := 15) (tgt := 152) hc dX8_laysCommutators_12 rfl rfl ?_ ?_
    · refine w_sub [0, 2, 3] rfl ?_
      exact hk0 I_6 L_7
    · refine w_aload_n (q := 16) (i := 0) (j := 0) hc dX8_laysCommutators_15 rfl rfl rfl ?_
      refine gf_X8_34 (q := 19) hc dX8_laysCommutators_16 (k_43 hK) (r_43_12 hR) rfl ?_
      refine w_bipush (q := 21) hc dX8_laysCommutators_19 cb_100 rfl ?_
      refine w_iload_n (q := 22) (i := 1) (j := 1) hc dX8_laysCommutators_21 rfl rfl rfl ?_
      refine w_imul (q := 23) hc dX8_laysCommutators_22  rfl ?_
      refine w_iload (q := 25) (i := 4) (j := 4) hc dX8_laysCommutators_23 rfl rfl ?_
      refine w_iadd (q := 26) hc dX8_laysCommutators_25  rfl ?_
      refine w_zald (q := 27) hc dX8_laysCommutators_26 (k_52 hK) rfl ?_
      refine w_ifeq (q := 30) (tgt := 146) hc dX8_laysCommutators_27 rfl rfl ?_ ?_
      · refine w_iincB (q := 149) (i := 4) (j := 4) (lv' := fun v4_8 => [(4, .int v4_8), (0, .ref 43), (1, .int v1_2), (2, .int v2_3), (3, .int v3_4)]) hc dX8_laysCommutators_146 rfl ci_1 (hN 4 rfl) (fun _ => rfl) rfl (fun v4_8 => ?_)
        refine w_goto (tgt := 8) hc dX8_laysCommutators_149 rfl ?_
        refine w_sub [1, 2, 3, 4, 0] rfl ?_
        exact ih v4_8 I_6 L_7
      · refine w_iload (q := 32) (i := 4) (j := 4) hc dX8_laysCommutators_30 rfl rfl ?_
        refine w_callS_Rz (q := 35) (st := []) (args := [.int v4_5]) hc (m_X8_isOwn hK hR) dX8_laysCommutators_32 ml_X8_333 cf_X8_isOwn st_X8_isOwn rfl rfl (Nat.le_of_ble_eq_true rfl) ⟨Nat.le_of_ble_eq_true rfl, Nat.le_of_ble_eq_true rfl⟩ rfl (fun q_9 => ?_)
        refine w_ifne (q := 38) (tgt := 41) hc dX8_laysCommutators_35 rfl rfl ?_ ?_
        · refine w_goto (tgt := 146) hc dX8_laysCommutators_38 rfl ?_
          refine w_iincB (q := 149) (i := 4) (j := 4) (lv' := fun v4_28 => [(4, .int v4_28), (0, .ref 43), (1, .int v1_2), (2, .int v2_3), (3, .int v3_4)]) hc dX8_laysCommutators_146 rfl ci_1 (hN 4 rfl) (fun _ => rfl) rfl (fun v4_28 => ?_)
          refine w_goto (tgt := 8) hc dX8_laysCommutators_149 rfl ?_
          refine w_sub [1, 2, 3, 4, 0] rfl ?_
          exact ih v4_28 I_6 L_7
        · refine w_iconst (q := 42) hc dX8_laysCommutators_41 ci_0 rfl ?_
          refine w_istore (q := 44) (i := 5) (lv' := [(5, .int 0), (0, .ref 43), (1, .int v1_2), (2, .int v2_3), (3, .int v3_4), (4, .int v4_5)]) hc dX8_laysCommutators_42 (hN 5 rfl) rfl rfl ?_
          refine w_sub [1, 2, 3, 4, 5, 0] rfl ?_
          refine wl_X8_laysCommutators_44 v1_2 v2_3 v3_4 v4_5 hc hq hK hR hn _ ?_ FU 0 I_6 L_7
          intro I_25 L_26
          refine w_iincB (q := 149) (i := 4) (j := 4) (lv' := fun v4_27 => [(4, .int v4_27), (0, .ref 43), (1, .int v1_2), (2, .int v2_3), (3, .int v3_4)]) hc dX8_laysCommutators_146 rfl ci_1 (hN 4 rfl) (fun _ => rfl) rfl (fun v4_27 => ?_)
          refine w_goto (tgt := 8) hc dX8_laysCommutators_149 rfl ?_
          refine w_sub [1, 2, 3, 4, 0] rfl ?_
          exact ih v4_27 I_25 L_26
set_option maxRecDepth 100000 in
set_option maxHeartbeats 4000000 in
theorem m_X8_laysCommutators {l : Launch} {K : KT} {R : MR} {rm : Nat} {a1 : Int32} {a2 : Int32} {a3 : Int32} {I : MI} {L : ML} (hK0 : K = lK rm) (hR0 : R = lR rm) : MFg l yX8_laysCommutators cX8_laysCommutators 7 none 6 141 [.ref 43, .int a1, .int a2, .int a3] K R I L anV meV (f_X8_laysCommutators a1 a2 a3 I L) := by
  refine mf_of (plainFor_of_name (by decide)) (Nat.le_of_ble_eq_true rfl) ?_
  intro G hc _ hK1 hR1 hn hq
  have hK := hK1.trans hK0
  have hR := hR1.trans hR0
  have hN : ∀ i, Nat.blt i 7 = true → i < gnL G := fun i h => hn ▸ Nat.blt_eq.mp h
  unfold f_X8_laysCommutators
  show WW G 0 [(0, .ref 43), (1, .int a1), (2, .int a2), (3, .int a3)] [] I L _
  refine w_aload_n (q := 1) (i := 0) (j := 0) hc dX8_laysCommutators_0 rfl rfl rfl ?_
  refine w_iload_n (q := 2) (i := 3) (j := 3) hc dX8_laysCommutators_1 rfl rfl rfl ?_
  refine w_callV_Wv (q := 5) (st := []) (args := [.int a3]) (p := 43) hc (m_X8_clears hK hR) dX8_laysCommutators_2 ml_X8_154 cf_X8_clears iv_X8_clears (k_43 hK) (C := RX8) (T := TX8) (N := 45) rfl rfl (Nat.lt_of_succ_le (Nat.le_of_ble_eq_true rfl)) rfl rfl (Nat.le_of_ble_eq_true rfl) ⟨Nat.le_of_ble_eq_true rfl, Nat.le_of_ble_eq_true rfl⟩ rfl (fun q_1 => ?_)
  refine w_iconst (q := 6) hc dX8_laysCommutators_5 ci_0 rfl ?_
  refine w_istore (q := 8) (i := 4) (lv' := [(4, .int 0), (0, .ref 43), (1, .int a1), (2, .int a2), (3, .int a3)]) hc dX8_laysCommutators_6 (hN 4 rfl) rfl rfl ?_
  refine w_sub [1, 2, 3, 4, 0] rfl ?_
  refine wl_X8_laysCommutators_8 a1 a2 a3 hc hq hK hR hn _ ?_ FU 0 q_1.1 q_1.2
  intro I_29 L_30
  refine w_iconst (q := 153) hc dX8_laysCommutators_152 ci_1 rfl ?_
  refine w_istore (q := 155) (i := 4) (lv' := [(4, .int 1), (0, .ref 43), (2, .int a2), (3, .int a3)]) hc dX8_laysCommutators_153 (hN 4 rfl) rfl rfl ?_
  refine w_sub [1, 2, 3, 0] rfl ?_
  exact wl_X8_laysCommutators_155 a2 a3 hc hq hK hR hn FU 1 I_29 L_30
set_option maxRecDepth 100000 in
set_option maxHeartbeats 4000000 in
theorem wl_X8_chainAt_12 {G : GT (Int32 × Mm)} {rm : Nat} (v1_3 : Int32) (a2 : Bool) (hc : Cx G cX8_chainAt yX8_chainAt.cls (some .int) 8 184) (hq : RetQ G anIW meW) (hK : gK G = lK rm) (hR : gR G = lR rm) (hn : gnL G = 4) (k0 : MI → ML → Option (Int32 × Mm)) (hk0 : ∀ (I_13 : MI) (L_14 : ML), WW G 59 [(0, .ref 43)] [] I_13 L_14 (k0 I_13 L_14)) : ∀ (n : Nat) (v3_4 : Int32) (I_5 : MI) (L_6 : ML), WW G 12 [(0, .ref 43), (1, .int v1_3), (2, .int (b2i a2)), (3, .int v3_4)] [] I_5 L_6 (f_X8_chainAt_12 v1_3 a2 k0 n v3_4 I_5 L_6) := by
  have hN : ∀ i, Nat.blt i 4 = true → i < gnL G := fun i h => hn ▸ Nat.blt_eq.mp h
  intro n
  induction n with
  | zero => intros; exact w_none _ _ _
  | succ n ih =>
    intros v3_4 I_5 L_6
    rw [f_X8_chainAt_12]
    refine w_iload_n (q := 13) (i := 3) (j := 3) hc dX8_chainAt_12 rfl rfl rfl ?_
    refine w_iload_n (q := 14) (i := 1) (j := 1) hc dX8_chainAt_13 rfl rfl rfl ?_
    refine w_icmpge (q := 17) (tgt := 59) hc dX8_chainAt_14 rfl rfl ?_ ?_
    · refine w_sub [0] rfl ?_
      exact hk0 I_5 L_6
    · refine w_aload_n (q := 18) (i := 0) (j := 0) hc dX8_chainAt_17 rfl rfl rfl ?_
      refine w_iconst (q := 19) hc dX8_chainAt_18 ci_1 rfl ?_
      refine w_iload_n (q := 20) (i := 2) (j := 2) hc dX8_chainAt_19 rfl rfl rfl ?_
      refine w_join (fun j28_297 : Bool → Option (Int32 × Mm) => ∀ (s0_7 : Bool), WW G 28 [(0, .ref 43), (1, .int v1_3), (2, .int (b2i a2)), (3, .int v3_4)] [.int (b2i s0_7), .int 1, .ref 43] I_5 L_6 (j28_297 s0_7)) ?_ ?_
      · intro s0_7
        refine w_iconst (q := 29) hc dX8_chainAt_28 ci_2 rfl ?_
        refine w_callV_Wv (q := 32) (st := []) (args := [.int 1, .int (b2i s0_7), .int 2]) (p := 43) hc (m_X8_laysCommutators hK hR) dX8_chainAt_29 ml_X8_339 cf_X8_laysCommutators iv_X8_laysCommutators (k_43 hK) (C := RX8) (T := TX8) (N := 45) rfl rfl (Nat.lt_of_succ_le (Nat.le_of_ble_eq_true rfl)) rfl rfl (Nat.le_of_ble_eq_true rfl) ⟨Nat.le_of_ble_eq_true rfl, Nat.le_of_ble_eq_true rfl⟩ rfl (fun q_8 => ?_)
        refine w_aload_n (q := 33) (i := 0) (j := 0) hc dX8_chainAt_32 rfl rfl rfl ?_
        refine w_iconst (q := 34) hc dX8_chainAt_33 ci_2 rfl ?_
        refine w_callV_Ri (q := 37) (st := []) (args := [.int 2]) (p := 43) hc (m_X8_orderOf hK hR) dX8_chainAt_34 ml_X8_181 cf_X8_orderOf iv_X8_orderOf (k_43 hK) (C := RX8) (T := TX8) (N := 45) rfl rfl (Nat.lt_of_succ_le (Nat.le_of_ble_eq_true rfl)) rfl rfl (Nat.le_of_ble_eq_true rfl) ⟨Nat.le_of_ble_eq_true rfl, Nat.le_of_ble_eq_true rfl⟩ rfl (fun q_9 => ?_)
        refine w_aload_n (q := 38) (i := 0) (j := 0) hc dX8_chainAt_37 rfl rfl rfl ?_
        refine w_iconst (q := 39) hc dX8_chainAt_38 ci_1 rfl ?_
        refine w_callV_Ri (q := 42) (st := [.int q_9]) (args := [.int 1]) (p := 43) hc (m_X8_orderOf hK hR) dX8_chainAt_39 ml_X8_181 cf_X8_orderOf iv_X8_orderOf (k_43 hK) (C := RX8) (T := TX8) (N := 45) rfl rfl (Nat.lt_of_succ_le (Nat.le_of_ble_eq_true rfl)) rfl rfl (Nat.le_of_ble_eq_true rfl) ⟨Nat.le_of_ble_eq_true rfl, Nat.le_of_ble_eq_true rfl⟩ rfl (fun q_10 => ?_)
        refine w_icmpne (q := 45) (tgt := 47) hc dX8_chainAt_42 rfl rfl ?_ ?_
        · refine w_iconst (q := 46) hc dX8_chainAt_45 ci_m1 rfl ?_
          exact w_ireturn (v := (-1)) hc hq dX8_chainAt_46 rfl rfl rfl
        · refine w_aload_n (q := 48) (i := 0) (j := 0) hc dX8_chainAt_47 rfl rfl rfl ?_
          refine w_iconst (q := 49) hc dX8_chainAt_48 ci_2 rfl ?_
          refine w_iconst (q := 50) hc dX8_chainAt_49 ci_1 rfl ?_
          refine w_callV_Wv (q := 53) (st := []) (args := [.int 2, .int 1]) (p := 43) hc (m_X8_copiesSlot hK hR) dX8_chainAt_50 ml_X8_336 cf_X8_copiesSlot iv_X8_copiesSlot (k_43 hK) (C := RX8) (T := TX8) (N := 45) rfl rfl (Nat.lt_of_succ_le (Nat.le_of_ble_eq_true rfl)) rfl rfl (Nat.le_of_ble_eq_true rfl) ⟨Nat.le_of_ble_eq_true rfl, Nat.le_of_ble_eq_true rfl⟩ rfl (fun q_11 => ?_)
          refine w_iincB (q := 56) (i := 3) (j := 3) (lv' := fun v3_12 => [(3, .int v3_12), (0, .ref 43), (1, .int v1_3), (2, .int (b2i a2))]) hc dX8_chainAt_53 rfl ci_1 (hN 3 rfl) (fun _ => rfl) rfl (fun v3_12 => ?_)
          refine w_goto (tgt := 12) hc dX8_chainAt_56 rfl ?_
          refine w_sub [1, 2, 3, 0] rfl ?_
          exact ih v3_12 q_11.1 q_11.2
      · intro j28_297 hj28_297
        refine w_ifeq (q := 23) (tgt := 27) hc dX8_chainAt_20 rfl rfl ?_ ?_
        · refine w_iconst (q := 28) hc dX8_chainAt_27 ci_0 rfl ?_
          exact hj28_297 false
        · refine w_iconst (q := 24) hc dX8_chainAt_23 ci_1 rfl ?_
          refine w_goto (tgt := 28) hc dX8_chainAt_24 rfl ?_
          exact hj28_297 true
set_option maxRecDepth 100000 in
set_option maxHeartbeats 4000000 in
theorem m_X8_chainAt {l : Launch} {K : KT} {R : MR} {rm : Nat} {a1 : Int32} {a2 : Bool} {I : MI} {L : ML} (hK0 : K = lK rm) (hR0 : R = lR rm) : MFg l yX8_chainAt cX8_chainAt 4 (some .int) 8 184 [.ref 43, .int a1, .int (b2i a2)] K R I L anIW meW (f_X8_chainAt a1 a2 I L) := by
  refine mf_of (plainFor_of_name (by decide)) (Nat.le_of_ble_eq_true rfl) ?_
  intro G hc _ hK1 hR1 hn hq
  have hK := hK1.trans hK0
  have hR := hR1.trans hR0
  have hN : ∀ i, Nat.blt i 4 = true → i < gnL G := fun i h => hn ▸ Nat.blt_eq.mp h
  unfold f_X8_chainAt
  show WW G 0 [(0, .ref 43), (1, .int a1), (2, .int (b2i a2))] [] I L _
  refine w_aload_n (q := 1) (i := 0) (j := 0) hc dX8_chainAt_0 rfl rfl rfl ?_
  refine w_callV_Wv (q := 4) (st := []) (args := []) (p := 43) hc (m_X8_builds_ hK hR) dX8_chainAt_1 ml_X8_179 cf_X8_builds_ iv_X8_builds_ (k_43 hK) (C := RX8) (T := TX8) (N := 45) rfl rfl (Nat.lt_of_succ_le (Nat.le_of_ble_eq_true rfl)) rfl rfl (Nat.le_of_ble_eq_true rfl) ⟨Nat.le_of_ble_eq_true rfl, Nat.le_of_ble_eq_true rfl⟩ rfl (fun q_1 => ?_)
  refine w_aload_n (q := 5) (i := 0) (j := 0) hc dX8_chainAt_4 rfl rfl rfl ?_
  refine w_iconst (q := 6) hc dX8_chainAt_5 ci_0 rfl ?_
  refine w_iconst (q := 7) hc dX8_chainAt_6 ci_1 rfl ?_
  refine w_callV_Wv (q := 10) (st := []) (args := [.int 0, .int 1]) (p := 43) hc (m_X8_copiesSlot hK hR) dX8_chainAt_7 ml_X8_336 cf_X8_copiesSlot iv_X8_copiesSlot (k_43 hK) (C := RX8) (T := TX8) (N := 45) rfl rfl (Nat.lt_of_succ_le (Nat.le_of_ble_eq_true rfl)) rfl rfl (Nat.le_of_ble_eq_true rfl) ⟨Nat.le_of_ble_eq_true rfl, Nat.le_of_ble_eq_true rfl⟩ rfl (fun q_2 => ?_)
  refine w_iconst (q := 11) hc dX8_chainAt_10 ci_0 rfl ?_
  refine w_istore_n (q := 12) (i := 3) (lv' := [(3, .int 0), (0, .ref 43), (1, .int a1), (2, .int (b2i a2))]) hc dX8_chainAt_11 rfl (hN 3 rfl) rfl rfl ?_
  refine w_sub [1, 2, 3, 0] rfl ?_
  refine wl_X8_chainAt_12 a1 a2 hc hq hK hR hn _ ?_ FU 0 q_2.1 q_2.2
  intro I_13 L_14
  refine w_aload_n (q := 60) (i := 0) (j := 0) hc dX8_chainAt_59 rfl rfl rfl ?_
  refine w_iconst (q := 61) hc dX8_chainAt_60 ci_1 rfl ?_
  refine w_callV_Ri (q := 64) (st := []) (args := [.int 1]) (p := 43) hc (m_X8_orderOf hK hR) dX8_chainAt_61 ml_X8_181 cf_X8_orderOf iv_X8_orderOf (k_43 hK) (C := RX8) (T := TX8) (N := 45) rfl rfl (Nat.lt_of_succ_le (Nat.le_of_ble_eq_true rfl)) rfl rfl (Nat.le_of_ble_eq_true rfl) ⟨Nat.le_of_ble_eq_true rfl, Nat.le_of_ble_eq_true rfl⟩ rfl (fun q_15 => ?_)
  exact w_ireturn (v := q_15) hc hq dX8_chainAt_64 rfl rfl rfl
set_option maxRecDepth 100000 in
set_option maxHeartbeats 4000000 in
theorem m_X8_derived {l : Launch} {K : KT} {R : MR} {rm : Nat} {a1 : Int32} {I : MI} {L : ML} (hK0 : K = lK rm) (hR0 : R = lR rm) : MFg l yX8_derived cX8_derived 2 (some .int) 9 207 [.ref 43, .int a1] K R I L anIW meW (f_X8_derived a1 I L) := by
  refine mf_of (plainFor_of_name (by decide)) (Nat.le_of_ble_eq_true rfl) ?_
  intro G hc _ hK1 hR1 hn hq
  have hK := hK1.trans hK0
  have hR := hR1.trans hR0
  have hN : ∀ i, Nat.blt i 2 = true → i < gnL G := fun i h => hn ▸ Nat.blt_eq.mp h
  unfold f_X8_derived
  show WW G 0 [(0, .ref 43), (1, .int a1)] [] I L _
  refine w_aload_n (q := 1) (i := 0) (j := 0) hc dX8_derived_0 rfl rfl rfl ?_
  refine w_aload_n (q := 2) (i := 0) (j := 0) hc dX8_derived_1 rfl rfl rfl ?_
  refine w_iload_n (q := 3) (i := 1) (j := 1) hc dX8_derived_2 rfl rfl rfl ?_
  refine w_join (fun j11_298 : Bool → Option (Int32 × Mm) => ∀ (s0_1 : Bool), WW G 11 [(0, .ref 43), (1, .int a1)] [.int (b2i s0_1), .ref 43, .ref 43] I L (j11_298 s0_1)) ?_ ?_
  · intro s0_1
    refine w_callV_Ri (q := 14) (st := [.ref 43]) (args := [.int (b2i s0_1)]) (p := 43) hc (m_X8_whyHere hK hR) dX8_derived_11 ml_X8_260 cf_X8_whyHere iv_X8_whyHere (k_43 hK) (C := RX8) (T := TX8) (N := 45) rfl rfl (Nat.lt_of_succ_le (Nat.le_of_ble_eq_true rfl)) rfl rfl (Nat.le_of_ble_eq_true rfl) ⟨Nat.le_of_ble_eq_true rfl, Nat.le_of_ble_eq_true rfl⟩ rfl (fun q_2 => ?_)
    refine w_callV_Wz (q := 17) (st := []) (args := [.int q_2]) (p := 43) hc (m_X8_is hK hR) dX8_derived_14 ml_X8_194 cf_X8_is iv_X8_is (k_43 hK) (C := RX8) (T := TX8) (N := 45) rfl rfl (Nat.lt_of_succ_le (Nat.le_of_ble_eq_true rfl)) rfl rfl (Nat.le_of_ble_eq_true rfl) ⟨Nat.le_of_ble_eq_true rfl, Nat.le_of_ble_eq_true rfl⟩ rfl (fun q_3 => ?_)
    refine w_ifeq (q := 20) (tgt := 33) hc dX8_derived_17 rfl rfl ?_ ?_
    · refine w_iconst (q := 34) hc dX8_derived_33 ci_m1 rfl ?_
      exact w_ireturn (v := (-1)) hc hq dX8_derived_34 rfl rfl rfl
    · refine w_aload_n (q := 21) (i := 0) (j := 0) hc dX8_derived_20 rfl rfl rfl ?_
      refine w_aload_n (q := 22) (i := 0) (j := 0) hc dX8_derived_21 rfl rfl rfl ?_
      refine w_iload_n (q := 23) (i := 1) (j := 1) hc dX8_derived_22 rfl rfl rfl ?_
      refine w_iconst (q := 24) hc dX8_derived_23 ci_1 rfl ?_
      refine w_callV_Wi (q := 27) (st := [.ref 43]) (args := [.int a1, .int 1]) (p := 43) hc (m_X8_chainAt hK hR) dX8_derived_24 ml_X8_343 cf_X8_chainAt iv_X8_chainAt (k_43 hK) (C := RX8) (T := TX8) (N := 45) rfl rfl (Nat.lt_of_succ_le (Nat.le_of_ble_eq_true rfl)) rfl rfl (Nat.le_of_ble_eq_true rfl) ⟨Nat.le_of_ble_eq_true rfl, Nat.le_of_ble_eq_true rfl⟩ rfl (fun q_4 => ?_)
      refine w_callV_Wi (q := 30) (st := []) (args := [.int q_4.1]) (p := 43) hc (m_X8_there hK hR) dX8_derived_27 ml_X8_272 cf_X8_there iv_X8_there (k_43 hK) (C := RX8) (T := TX8) (N := 45) rfl rfl (Nat.lt_of_succ_le (Nat.le_of_ble_eq_true rfl)) rfl rfl (Nat.le_of_ble_eq_true rfl) ⟨Nat.le_of_ble_eq_true rfl, Nat.le_of_ble_eq_true rfl⟩ rfl (fun q_5 => ?_)
      refine w_goto (tgt := 34) hc dX8_derived_30 rfl ?_
      exact w_ireturn (v := q_5.1) hc hq dX8_derived_34 rfl rfl rfl
  · intro j11_298 hj11_298
    refine w_iflt (q := 6) (tgt := 10) hc dX8_derived_3 rfl rfl ?_ ?_
    · refine w_iconst (q := 11) hc dX8_derived_10 ci_1 rfl ?_
      exact hj11_298 true
    · refine w_iconst (q := 7) hc dX8_derived_6 ci_0 rfl ?_
      refine w_goto (tgt := 11) hc dX8_derived_7 rfl ?_
      exact hj11_298 false
set_option maxRecDepth 100000 in
set_option maxHeartbeats 4000000 in
theorem m_X8_central {l : Launch} {K : KT} {R : MR} {rm : Nat} {a1 : Int32} {I : MI} {L : ML} (hK0 : K = lK rm) (hR0 : R = lR rm) : MFg l yX8_central cX8_central 2 (some .int) 9 207 [.ref 43, .int a1] K R I L anIW meW (f_X8_central a1 I L) := by
  refine mf_of (plainFor_of_name (by decide)) (Nat.le_of_ble_eq_true rfl) ?_
  intro G hc _ hK1 hR1 hn hq
  have hK := hK1.trans hK0
  have hR := hR1.trans hR0
  have hN : ∀ i, Nat.blt i 2 = true → i < gnL G := fun i h => hn ▸ Nat.blt_eq.mp h
  unfold f_X8_central
  show WW G 0 [(0, .ref 43), (1, .int a1)] [] I L _
  refine w_aload_n (q := 1) (i := 0) (j := 0) hc dX8_central_0 rfl rfl rfl ?_
  refine w_aload_n (q := 2) (i := 0) (j := 0) hc dX8_central_1 rfl rfl rfl ?_
  refine w_iload_n (q := 3) (i := 1) (j := 1) hc dX8_central_2 rfl rfl rfl ?_
  refine w_join (fun j11_299 : Bool → Option (Int32 × Mm) => ∀ (s0_1 : Bool), WW G 11 [(0, .ref 43), (1, .int a1)] [.int (b2i s0_1), .ref 43, .ref 43] I L (j11_299 s0_1)) ?_ ?_
  · intro s0_1
    refine w_callV_Ri (q := 14) (st := [.ref 43]) (args := [.int (b2i s0_1)]) (p := 43) hc (m_X8_whyHere hK hR) dX8_central_11 ml_X8_260 cf_X8_whyHere iv_X8_whyHere (k_43 hK) (C := RX8) (T := TX8) (N := 45) rfl rfl (Nat.lt_of_succ_le (Nat.le_of_ble_eq_true rfl)) rfl rfl (Nat.le_of_ble_eq_true rfl) ⟨Nat.le_of_ble_eq_true rfl, Nat.le_of_ble_eq_true rfl⟩ rfl (fun q_2 => ?_)
    refine w_callV_Wz (q := 17) (st := []) (args := [.int q_2]) (p := 43) hc (m_X8_is hK hR) dX8_central_14 ml_X8_194 cf_X8_is iv_X8_is (k_43 hK) (C := RX8) (T := TX8) (N := 45) rfl rfl (Nat.lt_of_succ_le (Nat.le_of_ble_eq_true rfl)) rfl rfl (Nat.le_of_ble_eq_true rfl) ⟨Nat.le_of_ble_eq_true rfl, Nat.le_of_ble_eq_true rfl⟩ rfl (fun q_3 => ?_)
    refine w_ifeq (q := 20) (tgt := 33) hc dX8_central_17 rfl rfl ?_ ?_
    · refine w_iconst (q := 34) hc dX8_central_33 ci_m1 rfl ?_
      exact w_ireturn (v := (-1)) hc hq dX8_central_34 rfl rfl rfl
    · refine w_aload_n (q := 21) (i := 0) (j := 0) hc dX8_central_20 rfl rfl rfl ?_
      refine w_aload_n (q := 22) (i := 0) (j := 0) hc dX8_central_21 rfl rfl rfl ?_
      refine w_iload_n (q := 23) (i := 1) (j := 1) hc dX8_central_22 rfl rfl rfl ?_
      refine w_iconst (q := 24) hc dX8_central_23 ci_0 rfl ?_
      refine w_callV_Wi (q := 27) (st := [.ref 43]) (args := [.int a1, .int 0]) (p := 43) hc (m_X8_chainAt hK hR) dX8_central_24 ml_X8_343 cf_X8_chainAt iv_X8_chainAt (k_43 hK) (C := RX8) (T := TX8) (N := 45) rfl rfl (Nat.lt_of_succ_le (Nat.le_of_ble_eq_true rfl)) rfl rfl (Nat.le_of_ble_eq_true rfl) ⟨Nat.le_of_ble_eq_true rfl, Nat.le_of_ble_eq_true rfl⟩ rfl (fun q_4 => ?_)
      refine w_callV_Wi (q := 30) (st := []) (args := [.int q_4.1]) (p := 43) hc (m_X8_there hK hR) dX8_central_27 ml_X8_272 cf_X8_there iv_X8_there (k_43 hK) (C := RX8) (T := TX8) (N := 45) rfl rfl (Nat.lt_of_succ_le (Nat.le_of_ble_eq_true rfl)) rfl rfl (Nat.le_of_ble_eq_true rfl) ⟨Nat.le_of_ble_eq_true rfl, Nat.le_of_ble_eq_true rfl⟩ rfl (fun q_5 => ?_)
      refine w_goto (tgt := 34) hc dX8_central_30 rfl ?_
      exact w_ireturn (v := q_5.1) hc hq dX8_central_34 rfl rfl rfl
  · intro j11_299 hj11_299
    refine w_iflt (q := 6) (tgt := 10) hc dX8_central_3 rfl rfl ?_ ?_
    · refine w_iconst (q := 11) hc dX8_central_10 ci_1 rfl ?_
      exact hj11_299 true
    · refine w_iconst (q := 7) hc dX8_central_6 ci_0 rfl ?_
      refine w_goto (tgt := 11) hc dX8_central_7 rfl ?_
      exact hj11_299 false
set_option maxRecDepth 100000 in
set_option maxHeartbeats 4000000 in
theorem wl_X8_allGo_2 {G : GT (Bool × Mm)} {rm : Nat} (hc : Cx G cX8_allGo yX8_allGo.cls (some .boolean) 3 68) (hq : RetQ G anZW meW) (hK : gK G = lK rm) (hR : gR G = lR rm) (hn : gnL G = 2) : ∀ (n : Nat) (v1_1 : Int32) (I_2 : MI) (L_3 : ML), WW G 2 [(0, .ref 43), (1, .int v1_1)] [] I_2 L_3 (f_X8_allGo_2 n v1_1 I_2 L_3) := by
  have hN : ∀ i, Nat.blt i 2 = true → i < gnL G := fun i h => hn ▸ Nat.blt_eq.mp h
  intro n
  induction n with
  | zero => intros; exact w_none _ _ _
  | succ n ih =>
    intros v1_1 I_2 L_3
    rw [f_X8_allGo_2]
    refine w_iload_n (q := 3) (i := 1) (j := 1) hc dX8_allGo_2 rfl rfl rfl ?_
    refine w_aload_n (q := 4) (i := 0) (j := 0) hc dX8_allGo_3 rfl rfl rfl ?_
    refine w_callV_Ri (q := 7) (st := [.int v1_1]) (args := []) (p := 43) hc (m_X8_moves hK hR) dX8_allGo_4 ml_X8_110 cf_X8_moves iv_X8_moves (k_43 hK) (C := RX8) (T := TX8) (N := 45) rfl rfl (Nat.lt_of_succ_le (Nat.le_of_ble_eq_true rfl)) rfl rfl (Nat.le_of_ble_eq_true rfl) ⟨Nat.le_of_ble_eq_true rfl, Nat.le_of_ble_eq_true rfl⟩ rfl (fun q_4 => ?_)
    refine w_icmpge (q := 10) (tgt := 38) hc dX8_allGo_7 rfl rfl ?_ ?_
    · refine w_iconst (q := 39) hc dX8_allGo_38 ci_1 rfl ?_
      exact w_ireturn (v := b2i true) hc hq dX8_allGo_39 (nar_b2i true) rfl rfl
    · refine w_aload_n (q := 11) (i := 0) (j := 0) hc dX8_allGo_10 rfl rfl rfl ?_
      refine w_iload_n (q := 12) (i := 1) (j := 1) hc dX8_allGo_11 rfl rfl rfl ?_
      refine w_aload_n (q := 13) (i := 0) (j := 0) hc dX8_allGo_12 rfl rfl rfl ?_
      refine gf_X8_16 (q := 16) hc dX8_allGo_13 (k_43 hK) (r_43_6 hR) rfl ?_
      refine w_callV_Wv (q := 19) (st := []) (args := [.int v1_1, .ref 46]) (p := 43) hc (m_X8_laysMove hK hR (kB hK (k_46 hK))) dX8_allGo_16 ml_X8_126 cf_X8_laysMove iv_X8_laysMove (k_43 hK) (C := RX8) (T := TX8) (N := 45) rfl rfl (Nat.lt_of_succ_le (Nat.le_of_ble_eq_true rfl)) rfl rfl (Nat.le_of_ble_eq_true rfl) ⟨Nat.le_of_ble_eq_true rfl, Nat.le_of_ble_eq_true rfl⟩ rfl (fun q_5 => ?_)
      refine w_aload_n (q := 20) (i := 0) (j := 0) hc dX8_allGo_19 rfl rfl rfl ?_
      refine w_aload_n (q := 21) (i := 0) (j := 0) hc dX8_allGo_20 rfl rfl rfl ?_
      refine gf_X8_16 (q := 24) hc dX8_allGo_21 (k_43 hK) (r_43_6 hR) rfl ?_
      refine w_callV_Wz (q := 27) (st := []) (args := [.ref 46]) (p := 43) hc (m_X8_goesWithMoves hK hR (kB hK (k_46 hK))) dX8_allGo_24 ml_X8_315 cf_X8_goesWithMoves iv_X8_goesWithMoves (k_43 hK) (C := RX8) (T := TX8) (N := 45) rfl rfl (Nat.lt_of_succ_le (Nat.le_of_ble_eq_true rfl)) rfl rfl (Nat.le_of_ble_eq_true rfl) ⟨Nat.le_of_ble_eq_true rfl, Nat.le_of_ble_eq_true rfl⟩ rfl (fun q_6 => ?_)
      refine w_ifne (q := 30) (tgt := 32) hc dX8_allGo_27 rfl rfl ?_ ?_
      · refine w_iconst (q := 31) hc dX8_allGo_30 ci_0 rfl ?_
        exact w_ireturn (v := b2i false) hc hq dX8_allGo_31 (nar_b2i false) rfl rfl
      · refine w_iincB (q := 35) (i := 1) (j := 1) (lv' := fun v1_7 => [(1, .int v1_7), (0, .ref 43)]) hc dX8_allGo_32 rfl ci_1 (hN 1 rfl) (fun _ => rfl) rfl (fun v1_7 => ?_)
        refine w_goto (tgt := 2) hc dX8_allGo_35 rfl ?_
        refine w_sub [1, 0] rfl ?_
        exact ih v1_7 q_6.2.1 q_6.2.2
set_option maxRecDepth 100000 in
set_option maxHeartbeats 4000000 in
theorem m_X8_allGo {l : Launch} {K : KT} {R : MR} {rm : Nat} {I : MI} {L : ML} (hK0 : K = lK rm) (hR0 : R = lR rm) : MFg l yX8_allGo cX8_allGo 2 (some .boolean) 3 68 [.ref 43] K R I L anZW meW (f_X8_allGo I L) := by
  refine mf_of (plainFor_of_name (by decide)) (Nat.le_of_ble_eq_true rfl) ?_
  intro G hc _ hK1 hR1 hn hq
  have hK := hK1.trans hK0
  have hR := hR1.trans hR0
  have hN : ∀ i, Nat.blt i 2 = true → i < gnL G := fun i h => hn ▸ Nat.blt_eq.mp h
  unfold f_X8_allGo
  show WW G 0 [(0, .ref 43)] [] I L _
  refine w_iconst (q := 1) hc dX8_allGo_0 ci_0 rfl ?_
  refine w_istore_n (q := 2) (i := 1) (lv' := [(1, .int 0), (0, .ref 43)]) hc dX8_allGo_1 rfl (hN 1 rfl) rfl rfl ?_
  refine w_sub [1, 0] rfl ?_
  exact wl_X8_allGo_2 hc hq hK hR hn FU 0 I L
set_option maxRecDepth 100000 in
set_option maxHeartbeats 4000000 in
theorem wl_X8_endsHome_11 {G : GT (Bool × Mm)} {rm : Nat} (hc : Cx G cX8_endsHome yX8_endsHome.cls (some .boolean) 9 207) (hq : RetQ G anZW meW) (hK : gK G = lK rm) (hR : gR G = lR rm) (hn : gnL G = 4) (k0 : Int32 → MI → ML → Option (Bool × Mm)) (hk0 : ∀ (v2_11 : Int32) (I_12 : MI) (L_13 : ML), WW G 31 [(2, .int v2_11)] [] I_12 L_13 (k0 v2_11 I_12 L_13)) : ∀ (n : Nat) (v1_3 : Int32) (v2_4 : Int32) (v3_5 : Int32) (I_6 : MI) (L_7 : ML), WW G 11 [(0, .ref 43), (1, .int v1_3), (2, .int v2_4), (3, .int v3_5)] [] I_6 L_7 (f_X8_endsHome_11 k0 n v1_3 v2_4 v3_5 I_6 L_7) := by
  have hN : ∀ i, Nat.blt i 4 = true → i < gnL G := fun i h => hn ▸ Nat.blt_eq.mp h
  intro n
  induction n with
  | zero => intros; exact w_none _ _ _
  | succ n ih =>
    intros v1_3 v2_4 v3_5 I_6 L_7
    rw [f_X8_endsHome_11]
    refine w_iload_n (q := 12) (i := 3) (j := 3) hc dX8_endsHome_11 rfl rfl rfl ?_
    refine w_iconst (q := 13) hc dX8_endsHome_12 ci_m1 rfl ?_
    refine w_icmpeq (q := 16) (tgt := 31) hc dX8_endsHome_13 rfl rfl ?_ ?_
    · refine w_sub [2] rfl ?_
      exact hk0 v2_4 I_6 L_7
    · refine w_iload_n (q := 17) (i := 3) (j := 3) hc dX8_endsHome_16 rfl rfl rfl ?_
      refine w_istore_n (q := 18) (i := 2) (lv' := [(2, .int v3_5), (0, .ref 43), (1, .int v1_3), (3, .int v3_5)]) hc dX8_endsHome_17 rfl (hN 2 rfl) rfl rfl ?_
      refine w_iincB (q := 21) (i := 1) (j := 2) (lv' := fun v1_8 => [(1, .int v1_8), (2, .int v3_5), (0, .ref 43), (3, .int v3_5)]) hc dX8_endsHome_18 rfl ci_1 (hN 1 rfl) (fun _ => rfl) rfl (fun v1_8 => ?_)
      refine w_aload_n (q := 22) (i := 0) (j := 2) hc dX8_endsHome_21 rfl rfl rfl ?_
      refine w_iload_n (q := 23) (i := 1) (j := 0) hc dX8_endsHome_22 rfl rfl rfl ?_
      refine w_iconst (q := 24) hc dX8_endsHome_23 ci_1 rfl ?_
      refine w_callV_Wi (q := 27) (st := []) (args := [.int v1_8, .int 1]) (p := 43) hc (m_X8_chainAt hK hR) dX8_endsHome_24 ml_X8_343 cf_X8_chainAt iv_X8_chainAt (k_43 hK) (C := RX8) (T := TX8) (N := 45) rfl rfl (Nat.lt_of_succ_le (Nat.le_of_ble_eq_true rfl)) rfl rfl (Nat.le_of_ble_eq_true rfl) ⟨Nat.le_of_ble_eq_true rfl, Nat.le_of_ble_eq_true rfl⟩ rfl (fun q_9 => ?_)
      refine w_istore_nB (q := 28) (i := 3) (lv' := fun v3_10 => [(3, .int v3_10), (1, .int v1_8), (2, .int v3_5), (0, .ref 43)]) hc dX8_endsHome_27 rfl (hN 3 rfl) (fun _ => rfl) rfl (fun v3_10 => ?_)
      refine w_goto (tgt := 11) hc dX8_endsHome_28 rfl ?_
      refine w_sub [3, 1, 2, 0] rfl ?_
      exact ih v1_8 v3_5 v3_10 q_9.2.1 q_9.2.2
set_option maxRecDepth 100000 in
set_option maxHeartbeats 4000000 in
theorem m_X8_endsHome {l : Launch} {K : KT} {R : MR} {rm : Nat} {I : MI} {L : ML} (hK0 : K = lK rm) (hR0 : R = lR rm) : MFg l yX8_endsHome cX8_endsHome 4 (some .boolean) 9 207 [.ref 43] K R I L anZW meW (f_X8_endsHome I L) := by
  refine mf_of (plainFor_of_name (by decide)) (Nat.le_of_ble_eq_true rfl) ?_
  intro G hc _ hK1 hR1 hn hq
  have hK := hK1.trans hK0
  have hR := hR1.trans hR0
  have hN : ∀ i, Nat.blt i 4 = true → i < gnL G := fun i h => hn ▸ Nat.blt_eq.mp h
  unfold f_X8_endsHome
  show WW G 0 [(0, .ref 43)] [] I L _
  refine w_iconst (q := 1) hc dX8_endsHome_0 ci_0 rfl ?_
  refine w_istore_n (q := 2) (i := 1) (lv' := [(1, .int 0), (0, .ref 43)]) hc dX8_endsHome_1 rfl (hN 1 rfl) rfl rfl ?_
  refine w_iconst (q := 3) hc dX8_endsHome_2 ci_m1 rfl ?_
  refine w_istore_n (q := 4) (i := 2) (lv' := [(2, .int (-1)), (1, .int 0), (0, .ref 43)]) hc dX8_endsHome_3 rfl (hN 2 rfl) rfl rfl ?_
  refine w_aload_n (q := 5) (i := 0) (j := 2) hc dX8_endsHome_4 rfl rfl rfl ?_
  refine w_iconst (q := 6) hc dX8_endsHome_5 ci_0 rfl ?_
  refine w_iconst (q := 7) hc dX8_endsHome_6 ci_1 rfl ?_
  refine w_callV_Wi (q := 10) (st := []) (args := [.int 0, .int 1]) (p := 43) hc (m_X8_chainAt hK hR) dX8_endsHome_7 ml_X8_343 cf_X8_chainAt iv_X8_chainAt (k_43 hK) (C := RX8) (T := TX8) (N := 45) rfl rfl (Nat.lt_of_succ_le (Nat.le_of_ble_eq_true rfl)) rfl rfl (Nat.le_of_ble_eq_true rfl) ⟨Nat.le_of_ble_eq_true rfl, Nat.le_of_ble_eq_true rfl⟩ rfl (fun q_1 => ?_)
  refine w_istore_nB (q := 11) (i := 3) (lv' := fun v3_2 => [(3, .int v3_2), (2, .int (-1)), (1, .int 0), (0, .ref 43)]) hc dX8_endsHome_10 rfl (hN 3 rfl) (fun _ => rfl) rfl (fun v3_2 => ?_)
  refine w_sub [3, 2, 1, 0] rfl ?_
  refine wl_X8_endsHome_11 hc hq hK hR hn _ ?_ FU 0 (-1) v3_2 q_1.2.1 q_1.2.2
  intro v2_11 I_12 L_13
  refine w_iload_n (q := 32) (i := 2) (j := 0) hc dX8_endsHome_31 rfl rfl rfl ?_
  refine w_iconst (q := 33) hc dX8_endsHome_32 ci_1 rfl ?_
  refine w_icmpne (q := 36) (tgt := 40) hc dX8_endsHome_33 rfl rfl ?_ ?_
  · refine w_iconst (q := 37) hc dX8_endsHome_36 ci_1 rfl ?_
    refine w_goto (tgt := 41) hc dX8_endsHome_37 rfl ?_
    exact w_ireturn (v := b2i true) hc hq dX8_endsHome_41 (nar_b2i true) rfl rfl
  · refine w_iconst (q := 41) hc dX8_endsHome_40 ci_0 rfl ?_
    exact w_ireturn (v := b2i false) hc hq dX8_endsHome_41 (nar_b2i false) rfl rfl
set_option maxRecDepth 100000 in
set_option maxHeartbeats 4000000 in
theorem wl_X8_allEven_4 {G : GT (Bool × Mm)} {rm : Nat} (hc : Cx G cX8_allEven yX8_allEven.cls (some .boolean) 3 67) (hq : RetQ G anZW meW) (hK : gK G = lK rm) (hR : gR G = lR rm) (hn : gnL G = 3) : ∀ (n : Nat) (v1_1 : Int32) (v2_2 : Int32) (I_3 : MI) (L_4 : ML), WW G 4 [(0, .ref 43), (1, .int v1_1), (2, .int v2_2)] [] I_3 L_4 (f_X8_allEven_4 n v1_1 v2_2 I_3 L_4) := by
  have hN : ∀ i, Nat.blt i 3 = true → i < gnL G := fun i h => hn ▸ Nat.blt_eq.mp h
  intro n
  induction n with
  | zero => intros; exact w_none _ _ _
  | succ n ih =>
    intros v1_1 v2_2 I_3 L_4
    rw [f_X8_allEven_4]
    refine w_iload_n (q := 5) (i := 2) (j := 2) hc dX8_allEven_4 rfl rfl rfl ?_
    refine w_aload_n (q := 6) (i := 0) (j := 0) hc dX8_allEven_5 rfl rfl rfl ?_
    refine w_callV_Ri (q := 9) (st := [.int v2_2]) (args := []) (p := 43) hc (m_X8_moves hK hR) dX8_allEven_6 ml_X8_110 cf_X8_moves iv_X8_moves (k_43 hK) (C := RX8) (T := TX8) (N := 45) rfl rfl (Nat.lt_of_succ_le (Nat.le_of_ble_eq_true rfl)) rfl rfl (Nat.le_of_ble_eq_true rfl) ⟨Nat.le_of_ble_eq_true rfl, Nat.le_of_ble_eq_true rfl⟩ rfl (fun q_5 => ?_)
    refine w_icmpge (q := 12) (tgt := 48) hc dX8_allEven_9 rfl rfl ?_ ?_
    · refine w_iload_n (q := 49) (i := 1) (j := 1) hc dX8_allEven_48 rfl rfl rfl ?_
      exact w_ireturnZ (v := v1_1) hc hq dX8_allEven_49 (fun h => by show some (Value.int (b2i (i2z _))) = _; rw [b2i_i2z h]) rfl
    · refine w_aload_n (q := 13) (i := 0) (j := 0) hc dX8_allEven_12 rfl rfl rfl ?_
      refine w_iload_n (q := 14) (i := 2) (j := 2) hc dX8_allEven_13 rfl rfl rfl ?_
      refine w_aload_n (q := 15) (i := 0) (j := 0) hc dX8_allEven_14 rfl rfl rfl ?_
      refine gf_X8_16 (q := 18) hc dX8_allEven_15 (k_43 hK) (r_43_6 hR) rfl ?_
      refine w_callV_Wv (q := 21) (st := []) (args := [.int v2_2, .ref 46]) (p := 43) hc (m_X8_laysMove hK hR (kB hK (k_46 hK))) dX8_allEven_18 ml_X8_126 cf_X8_laysMove iv_X8_laysMove (k_43 hK) (C := RX8) (T := TX8) (N := 45) rfl rfl (Nat.lt_of_succ_le (Nat.le_of_ble_eq_true rfl)) rfl rfl (Nat.le_of_ble_eq_true rfl) ⟨Nat.le_of_ble_eq_true rfl, Nat.le_of_ble_eq_true rfl⟩ rfl (fun q_6 => ?_)
      refine w_iload_n (q := 22) (i := 1) (j := 1) hc dX8_allEven_21 rfl rfl rfl ?_
      refine w_ifeq (q := 25) (tgt := 40) hc dX8_allEven_22 rfl rfl ?_ ?_
      · refine w_iconst (q := 41) hc dX8_allEven_40 ci_0 rfl ?_
        refine w_istore_n (q := 42) (i := 1) (lv' := [(1, .int 0), (0, .ref 43), (2, .int v2_2)]) hc dX8_allEven_41 rfl (hN 1 rfl) rfl rfl ?_
        refine w_iincB (q := 45) (i := 2) (j := 2) (lv' := fun v2_7 => [(2, .int v2_7), (1, .int 0), (0, .ref 43)]) hc dX8_allEven_42 rfl ci_1 (hN 2 rfl) (fun _ => rfl) rfl (fun v2_7 => ?_)
        refine w_goto (tgt := 4) hc dX8_allEven_45 rfl ?_
        refine w_sub [2, 1, 0] rfl ?_
        exact ih 0 v2_7 q_6.1 q_6.2
      · refine w_aload_n (q := 26) (i := 0) (j := 0) hc dX8_allEven_25 rfl rfl rfl ?_
        refine w_aload_n (q := 27) (i := 0) (j := 0) hc dX8_allEven_26 rfl rfl rfl ?_
        refine gf_X8_16 (q := 30) hc dX8_allEven_27 (k_43 hK) (r_43_6 hR) rfl ?_
        refine w_callV_Rz (q := 33) (st := []) (args := [.ref 46]) (p := 43) hc (m_X8_isEven hK hR (kB hK (k_46 hK))) dX8_allEven_30 ml_X8_254 cf_X8_isEven iv_X8_isEven (k_43 hK) (C := RX8) (T := TX8) (N := 45) rfl rfl (Nat.lt_of_succ_le (Nat.le_of_ble_eq_true rfl)) rfl rfl (Nat.le_of_ble_eq_true rfl) ⟨Nat.le_of_ble_eq_true rfl, Nat.le_of_ble_eq_true rfl⟩ rfl (fun q_8 => ?_)
        refine w_ifeq (q := 36) (tgt := 40) hc dX8_allEven_33 rfl rfl ?_ ?_
        · refine w_iconst (q := 41) hc dX8_allEven_40 ci_0 rfl ?_
          refine w_istore_n (q := 42) (i := 1) (lv' := [(1, .int 0), (0, .ref 43), (2, .int v2_2)]) hc dX8_allEven_41 rfl (hN 1 rfl) rfl rfl ?_
          refine w_iincB (q := 45) (i := 2) (j := 2) (lv' := fun v2_9 => [(2, .int v2_9), (1, .int 0), (0, .ref 43)]) hc dX8_allEven_42 rfl ci_1 (hN 2 rfl) (fun _ => rfl) rfl (fun v2_9 => ?_)
          refine w_goto (tgt := 4) hc dX8_allEven_45 rfl ?_
          refine w_sub [2, 1, 0] rfl ?_
          exact ih 0 v2_9 q_6.1 q_6.2
        · refine w_iconst (q := 37) hc dX8_allEven_36 ci_1 rfl ?_
          refine w_goto (tgt := 41) hc dX8_allEven_37 rfl ?_
          refine w_istore_n (q := 42) (i := 1) (lv' := [(1, .int 1), (0, .ref 43), (2, .int v2_2)]) hc dX8_allEven_41 rfl (hN 1 rfl) rfl rfl ?_
          refine w_iincB (q := 45) (i := 2) (j := 2) (lv' := fun v2_10 => [(2, .int v2_10), (1, .int 1), (0, .ref 43)]) hc dX8_allEven_42 rfl ci_1 (hN 2 rfl) (fun _ => rfl) rfl (fun v2_10 => ?_)
          refine w_goto (tgt := 4) hc dX8_allEven_45 rfl ?_
          refine w_sub [2, 1, 0] rfl ?_
          exact ih 1 v2_10 q_6.1 q_6.2
set_option maxRecDepth 100000 in
set_option maxHeartbeats 4000000 in
theorem m_X8_allEven {l : Launch} {K : KT} {R : MR} {rm : Nat} {I : MI} {L : ML} (hK0 : K = lK rm) (hR0 : R = lR rm) : MFg l yX8_allEven cX8_allEven 3 (some .boolean) 3 67 [.ref 43] K R I L anZW meW (f_X8_allEven I L) := by
  refine mf_of (plainFor_of_name (by decide)) (Nat.le_of_ble_eq_true rfl) ?_
  intro G hc _ hK1 hR1 hn hq
  have hK := hK1.trans hK0
  have hR := hR1.trans hR0
  have hN : ∀ i, Nat.blt i 3 = true → i < gnL G := fun i h => hn ▸ Nat.blt_eq.mp h
  unfold f_X8_allEven
  show WW G 0 [(0, .ref 43)] [] I L _
  refine w_iconst (q := 1) hc dX8_allEven_0 ci_1 rfl ?_
  refine w_istore_n (q := 2) (i := 1) (lv' := [(1, .int 1), (0, .ref 43)]) hc dX8_allEven_1 rfl (hN 1 rfl) rfl rfl ?_
  refine w_iconst (q := 3) hc dX8_allEven_2 ci_0 rfl ?_
  refine w_istore_n (q := 4) (i := 2) (lv' := [(2, .int 0), (1, .int 1), (0, .ref 43)]) hc dX8_allEven_3 rfl (hN 2 rfl) rfl rfl ?_
  refine w_sub [2, 1, 0] rfl ?_
  exact wl_X8_allEven_4 hc hq hK hR hn FU 1 0 I L
