set_option maxRecDepth 100000 in
set_option maxHeartbeats 4000000 in
theorem m_X2_everyMove {l : Launch} {K : KT} {R : MR} {rm : Nat} {I : MI} {L : ML} (hK0 : K = lK rm) (hR0 : R = lR rm) : MFg l yX2_everyMove cX2_everyMove 1 (some .int) 0 0 [.ref 6] K R I L anI (meR I L) (f_X2_everyMove I L) := by
  refine mf_of (plainFor_of_name (by decide)) (Nat.le_of_ble_eq_true rfl) ?_
  intro G hc _ hK1 hR1 hn hq
  have hK := hK1.trans hK0
  have hR := hR1.trans hR0
  have hN : ∀ i, Nat.blt i 1 = true → i < gnL G := fun i h => hn ▸ Nat.blt_eq.mp h
  unfold f_X2_everyMove
  show WW G 0 [(0, .ref 6)] [] I L _
  refine w_iconst (q := 1) hc dX2_everyMove_0 ci_1 rfl ?_
  refine w_aload_n (q := 2) (i := 0) (j := 0) hc dX2_everyMove_1 rfl rfl rfl ?_
  refine gf_X2_15 (q := 5) hc dX2_everyMove_2 (k_6 hK) rfl ?_
  refine w_ishl (q := 6) hc dX2_everyMove_5  rfl ?_
  refine w_iconst (q := 7) hc dX2_everyMove_6 ci_1 rfl ?_
  refine w_isub (q := 8) hc dX2_everyMove_7  rfl ?_
  exact w_ireturn (v := ((shl 1 (I 6 1)) - 1)) hc hq dX2_everyMove_8 rfl rfl rfl
set_option maxRecDepth 100000 in
set_option maxHeartbeats 4000000 in
theorem wl_X2_findOut_44 {G : GT Mm} {rm : Nat} (L : ML) (hc : Cx G cX2_findOut yX2_findOut.cls none 5 137) (hq : RetQ G anV meV) (hK : gK G = lK rm) (hR : gR G = lR rm) (hn : gnL G = 2) : ∀ (n : Nat) (v1_7 : Int32) (I_8 : MI), WW G 44 [(0, .ref 6), (1, .int v1_7)] [] I_8 L (f_X2_findOut_44 L n v1_7 I_8) := by
  have hN : ∀ i, Nat.blt i 2 = true → i < gnL G := fun i h => hn ▸ Nat.blt_eq.mp h
  intro n
  induction n with
  | zero => intros; exact w_none _ _ _
  | succ n ih =>
    intros v1_7 I_8
    rw [f_X2_findOut_44]
    refine w_iload_n (q := 45) (i := 1) (j := 1) hc dX2_findOut_44 rfl rfl rfl ?_
    refine w_aload_n (q := 46) (i := 0) (j := 0) hc dX2_findOut_45 rfl rfl rfl ?_
    refine gf_X2_38 (q := 49) hc dX2_findOut_46 (k_6 hK) (r_6_7 hR) rfl ?_
    refine w_alenI (q := 50) hc dX2_findOut_49 (k_29 hK) cn_64 rfl ?_
    refine w_icmpge (q := 53) (tgt := 66) hc dX2_findOut_50 rfl rfl ?_ ?_
    · exact w_return hc hq dX2_findOut_66 rfl rfl
    · refine w_aload_n (q := 54) (i := 0) (j := 0) hc dX2_findOut_53 rfl rfl rfl ?_
      refine gf_X2_38 (q := 57) hc dX2_findOut_54 (k_6 hK) (r_6_7 hR) rfl ?_
      refine w_iload_n (q := 58) (i := 1) (j := 1) hc dX2_findOut_57 rfl rfl rfl ?_
      refine w_iconst (q := 59) hc dX2_findOut_58 ci_0 rfl ?_
      refine w_iast (q := 60) hc dX2_findOut_59 (k_29 hK) rfl (fun I_9 => ?_)
      refine w_iincB (q := 63) (i := 1) (j := 1) (lv' := fun v1_10 => [(1, .int v1_10), (0, .ref 6)]) hc dX2_findOut_60 rfl ci_1 (hN 1 rfl) (fun _ => rfl) rfl (fun v1_10 => ?_)
      refine w_goto (tgt := 44) hc dX2_findOut_63 rfl ?_
      refine w_sub [1, 0] rfl ?_
      exact ih v1_10 I_9
set_option maxRecDepth 100000 in
set_option maxHeartbeats 4000000 in
theorem m_X2_findOut {l : Launch} {K : KT} {R : MR} {rm : Nat} {I : MI} {L : ML} (hK0 : K = lK rm) (hR0 : R = lR rm) : MFg l yX2_findOut cX2_findOut 2 none 5 137 [.ref 6] K R I L anV meV (f_X2_findOut I L) := by
  refine mf_of (plainFor_of_name (by decide)) (Nat.le_of_ble_eq_true rfl) ?_
  intro G hc _ hK1 hR1 hn hq
  have hK := hK1.trans hK0
  have hR := hR1.trans hR0
  have hN : ∀ i, Nat.blt i 2 = true → i < gnL G := fun i h => hn ▸ Nat.blt_eq.mp h
  unfold f_X2_findOut
  show WW G 0 [(0, .ref 6)] [] I L _
  refine w_aload_n (q := 1) (i := 0) (j := 0) hc dX2_findOut_0 rfl rfl rfl ?_
  refine w_aload_n (q := 2) (i := 0) (j := 0) hc dX2_findOut_1 rfl rfl rfl ?_
  refine gf_X2_25 (q := 5) hc dX2_findOut_2 (k_6 hK) (r_6_3 hR) rfl ?_
  refine w_aload_n (q := 6) (i := 0) (j := 0) hc dX2_findOut_5 rfl rfl rfl ?_
  refine gf_X2_18 (q := 9) hc dX2_findOut_6 (k_6 hK) (r_6_2 hR) rfl ?_
  refine w_aload_n (q := 10) (i := 0) (j := 0) hc dX2_findOut_9 rfl rfl rfl ?_
  refine w_callV_Ri (q := 13) (st := [.ref 7, .ref 8, .ref 6]) (args := []) (p := 6) hc (m_X2_everyMove hK hR) dX2_findOut_10 ml_X2_75 cf_X2_everyMove iv_X2_everyMove (k_6 hK) (C := RX2) (T := TX2) (N := 13) rfl rfl (Nat.lt_of_succ_le (Nat.le_of_ble_eq_true rfl)) rfl rfl (Nat.le_of_ble_eq_true rfl) ⟨Nat.le_of_ble_eq_true rfl, Nat.le_of_ble_eq_true rfl⟩ rfl (fun q_1 => ?_)
  refine w_aload_n (q := 14) (i := 0) (j := 0) hc dX2_findOut_13 rfl rfl rfl ?_
  refine gf_X2_9 (q := 17) hc dX2_findOut_14 (k_6 hK) rfl ?_
  refine w_callV_Wi (q := 20) (st := [.ref 6]) (args := [.ref 7, .int q_1, .int (I 6 0)]) (p := 8) hc (m_X0_gather hK hR (ch_8) (kB hK (k_7 hK))) dX2_findOut_17 ml_X2_79 cf_X0_gather iv_X0_gather (k_8 hK) (C := RX0) (T := TX0) (N := 8) rfl rfl (Nat.lt_of_succ_le (Nat.le_of_ble_eq_true rfl)) rfl rfl (Nat.le_of_ble_eq_true rfl) ⟨Nat.le_of_ble_eq_true rfl, Nat.le_of_ble_eq_true rfl⟩ rfl (fun q_2 => ?_)
  refine pf_X2_29 (q := 23) hc dX2_findOut_20 (k_6 hK) rfl (fun I_3 => ?_)
  refine w_aload_n (q := 24) (i := 0) (j := 0) hc dX2_findOut_23 rfl rfl rfl ?_
  refine w_iconst (q := 25) hc dX2_findOut_24 ci_0 rfl ?_
  refine pf_X2_56 (q := 28) hc dX2_findOut_25 (k_6 hK) bz_0 rfl (fun I_4 => ?_)
  refine w_aload_n (q := 29) (i := 0) (j := 0) hc dX2_findOut_28 rfl rfl rfl ?_
  refine gf_X2_45 (q := 32) hc dX2_findOut_29 (k_6 hK) (r_6_8 hR) rfl ?_
  refine w_callV_Wv (q := 35) (st := []) (args := []) (p := 30) hc (m_X1_forget hK hR (de_30)) dX2_findOut_32 ml_X2_83 cf_X1_forget iv_X1_forget (k_30 hK) (C := RX1) (T := TX1) (N := 5) rfl rfl (Nat.lt_of_succ_le (Nat.le_of_ble_eq_true rfl)) rfl rfl (Nat.le_of_ble_eq_true rfl) ⟨Nat.le_of_ble_eq_true rfl, Nat.le_of_ble_eq_true rfl⟩ rfl (fun q_5 => ?_)
  refine w_aload_n (q := 36) (i := 0) (j := 0) hc dX2_findOut_35 rfl rfl rfl ?_
  refine gf_X2_49 (q := 39) hc dX2_findOut_36 (k_6 hK) (r_6_9 hR) rfl ?_
  refine w_callV_Wv (q := 42) (st := []) (args := []) (p := 33) hc (m_X1_forget hK hR (de_33)) dX2_findOut_39 ml_X2_83 cf_X1_forget iv_X1_forget (k_33 hK) (C := RX1) (T := TX1) (N := 5) rfl rfl (Nat.lt_of_succ_le (Nat.le_of_ble_eq_true rfl)) rfl rfl (Nat.le_of_ble_eq_true rfl) ⟨Nat.le_of_ble_eq_true rfl, Nat.le_of_ble_eq_true rfl⟩ rfl (fun q_6 => ?_)
  refine w_iconst (q := 43) hc dX2_findOut_42 ci_0 rfl ?_
  refine w_istore_n (q := 44) (i := 1) (lv' := [(1, .int 0), (0, .ref 6)]) hc dX2_findOut_43 rfl (hN 1 rfl) rfl rfl ?_
  refine w_sub [1, 0] rfl ?_
  exact wl_X2_findOut_44 q_6.2 hc hq hK hR hn FU 0 q_6.1
set_option maxRecDepth 100000 in
set_option maxHeartbeats 4000000 in
theorem wl_X2_become_18 {G : GT Mm} {rm : Nat} (a2 : Nat) (I : MI) (hc : Cx G cX2_become yX2_become.cls none 6 158) (hq : RetQ G anV meV) (hK : gK G = lK rm) (hR : gR G = lR rm) (hn : gnL G = 5) (ha2 : (lK rm)[a2]? = some (11, 6)) (k0 : ML → Option Mm) (hk0 : ∀ (L_7 : ML), WW G 51 [(0, .ref 6)] [] I L_7 (k0 L_7)) : ∀ (n : Nat) (v4_3 : Int32) (L_4 : ML), WW G 18 [(0, .ref 6), (2, .ref a2), (4, .int v4_3)] [] I L_4 (f_X2_become_18 a2 I k0 n v4_3 L_4) := by
  have hN : ∀ i, Nat.blt i 5 = true → i < gnL G := fun i h => hn ▸ Nat.blt_eq.mp h
  intro n
  induction n with
  | zero => intros; exact w_none _ _ _
  | succ n ih =>
    intros v4_3 L_4
    rw [f_X2_become_18]
    refine w_iload (q := 20) (i := 4) (j := 2) hc dX2_become_18 rfl rfl ?_
    refine w_aload_n (q := 21) (i := 0) (j := 0) hc dX2_become_20 rfl rfl rfl ?_
    refine gf_X2_15 (q := 24) hc dX2_become_21 (k_6 hK) rfl ?_
    refine w_icmpge (q := 27) (tgt := 51) hc dX2_become_24 rfl rfl ?_ ?_
    · refine w_sub [0] rfl ?_
      exact hk0 L_4
    · refine w_iload (q := 29) (i := 4) (j := 2) hc dX2_become_27 rfl rfl ?_
      refine w_aload_n (q := 30) (i := 2) (j := 1) hc dX2_become_29 rfl rfl rfl ?_
      refine w_alenJ (q := 31) hc dX2_become_30 (kA hK ha2) cn_6 rfl ?_
      refine w_icmpge (q := 34) (tgt := 51) hc dX2_become_31 rfl rfl ?_ ?_
      · refine w_sub [0] rfl ?_
        exact hk0 L_4
      · refine w_aload_n (q := 35) (i := 0) (j := 0) hc dX2_become_34 rfl rfl rfl ?_
        refine gf_X2_18 (q := 38) hc dX2_become_35 (k_6 hK) (r_6_2 hR) rfl ?_
        refine w_iload (q := 40) (i := 4) (j := 2) hc dX2_become_38 rfl rfl ?_
        refine w_aload_n (q := 41) (i := 2) (j := 1) hc dX2_become_40 rfl rfl rfl ?_
        refine w_iload (q := 43) (i := 4) (j := 2) hc dX2_become_41 rfl rfl ?_
        refine w_lald (q := 44) hc dX2_become_43 (kA hK ha2) rfl ?_
        refine w_last (q := 45) hc dX2_become_44 (k_7 hK) rfl (fun L_5 => ?_)
        refine w_iincB (q := 48) (i := 4) (j := 2) (lv' := fun v4_6 => [(4, .int v4_6), (0, .ref 6), (2, .ref a2)]) hc dX2_become_45 rfl ci_1 (hN 4 rfl) (fun _ => rfl) rfl (fun v4_6 => ?_)
        refine w_goto (tgt := 18) hc dX2_become_48 rfl ?_
        refine w_sub [1, 2, 0] rfl ?_
        exact ih v4_6 L_5
set_option maxRecDepth 100000 in
set_option maxHeartbeats 4000000 in
theorem m_X2_become {l : Launch} {K : KT} {R : MR} {rm : Nat} {a1 : Int32} {a2 : Nat} {a3 : Int32} {I : MI} {L : ML} (hK0 : K = lK rm) (hR0 : R = lR rm) (ha2 : (lK rm)[a2]? = some (11, 6)) : MFg l yX2_become cX2_become 5 none 6 158 [.ref 6, .int a1, .ref a2, .int a3] K R I L anV meV (f_X2_become a1 a2 a3 I L) := by
  refine mf_of (plainFor_of_name (by decide)) (Nat.le_of_ble_eq_true rfl) ?_
  intro G hc _ hK1 hR1 hn hq
  have hK := hK1.trans hK0
  have hR := hR1.trans hR0
  have hN : ∀ i, Nat.blt i 5 = true → i < gnL G := fun i h => hn ▸ Nat.blt_eq.mp h
  unfold f_X2_become
  show WW G 0 [(0, .ref 6), (1, .int a1), (2, .ref a2), (3, .int a3)] [] I L _
  refine w_aload_n (q := 1) (i := 0) (j := 0) hc dX2_become_0 rfl rfl rfl ?_
  refine w_iload_n (q := 2) (i := 1) (j := 1) hc dX2_become_1 rfl rfl rfl ?_
  refine pf_X2_9 (q := 5) hc dX2_become_2 (k_6 hK) rfl (fun I_1 => ?_)
  refine w_aload_n (q := 6) (i := 0) (j := 0) hc dX2_become_5 rfl rfl rfl ?_
  refine w_iload_n (q := 7) (i := 3) (j := 3) hc dX2_become_6 rfl rfl rfl ?_
  refine w_bipush (q := 9) hc dX2_become_7 cb_6 rfl ?_
  refine w_min (q := 12) (st := [.ref 6]) hc dX2_become_9 ml_X2_63 (Nat.le_of_ble_eq_true rfl) (Nat.le_of_ble_eq_true rfl) (Nat.le_of_ble_eq_true rfl) rfl ?_
  refine pf_X2_15 (q := 15) hc dX2_become_12 (k_6 hK) rfl (fun I_2 => ?_)
  refine w_iconst (q := 16) hc dX2_become_15 ci_0 rfl ?_
  refine w_istore (q := 18) (i := 4) (lv' := [(4, .int 0), (0, .ref 6), (1, .int a1), (2, .ref a2), (3, .int a3)]) hc dX2_become_16 (hN 4 rfl) rfl rfl ?_
  refine w_sub [1, 3, 0] rfl ?_
  refine wl_X2_become_18 a2 I_2 hc hq hK hR hn ha2 _ ?_ FU 0 L
  intro L_7
  refine w_aload_n (q := 52) (i := 0) (j := 0) hc dX2_become_51 rfl rfl rfl ?_
  refine w_callV_Wv (q := 55) (st := []) (args := []) (p := 6) hc (m_X2_findOut hK hR) dX2_become_52 ml_X2_69 cf_X2_findOut iv_X2_findOut (k_6 hK) (C := RX2) (T := TX2) (N := 13) rfl rfl (Nat.lt_of_succ_le (Nat.le_of_ble_eq_true rfl)) rfl rfl (Nat.le_of_ble_eq_true rfl) ⟨Nat.le_of_ble_eq_true rfl, Nat.le_of_ble_eq_true rfl⟩ rfl (fun q_8 => ?_)
  exact w_return hc hq dX2_become_55 rfl rfl
set_option maxRecDepth 100000 in
set_option maxHeartbeats 4000000 in
theorem m_X2_take {l : Launch} {K : KT} {R : MR} {rm : Nat} {a1 : Int64} {I : MI} {L : ML} (hK0 : K = lK rm) (hR0 : R = lR rm) : MFg l yX2_take cX2_take 3 none 6 158 [.ref 6, .long a1] K R I L anV meV (f_X2_take a1 I L) := by
  refine mf_of (plainFor_of_name (by decide)) (Nat.le_of_ble_eq_true rfl) ?_
  intro G hc _ hK1 hR1 hn hq
  have hK := hK1.trans hK0
  have hR := hR1.trans hR0
  have hN : ∀ i, Nat.blt i 3 = true → i < gnL G := fun i h => hn ▸ Nat.blt_eq.mp h
  unfold f_X2_take
  show WW G 0 [(0, .ref 6), (1, .long a1)] [] I L _
  refine w_aload_n (q := 1) (i := 0) (j := 0) hc dX2_take_0 rfl rfl rfl ?_
  refine gf_X2_15 (q := 4) hc dX2_take_1 (k_6 hK) rfl ?_
  refine w_bipush (q := 6) hc dX2_take_4 cb_6 rfl ?_
  refine w_icmpge (q := 9) (tgt := 33) hc dX2_take_6 rfl rfl ?_ ?_
  · exact w_return hc hq dX2_take_33 rfl rfl
  · refine w_aload_n (q := 10) (i := 0) (j := 0) hc dX2_take_9 rfl rfl rfl ?_
    refine gf_X2_18 (q := 13) hc dX2_take_10 (k_6 hK) (r_6_2 hR) rfl ?_
    refine w_aload_n (q := 14) (i := 0) (j := 0) hc dX2_take_13 rfl rfl rfl ?_
    refine gf_X2_15 (q := 17) hc dX2_take_14 (k_6 hK) rfl ?_
    refine w_lload_n (q := 18) (i := 1) (j := 1) hc dX2_take_17 rfl rfl rfl ?_
    refine w_last (q := 19) hc dX2_take_18 (k_7 hK) rfl (fun L_1 => ?_)
    refine w_aload_n (q := 20) (i := 0) (j := 0) hc dX2_take_19 rfl rfl rfl ?_
    refine w_dup_ref (q := 21) hc dX2_take_20  rfl ?_
    refine gf_X2_15 (q := 24) hc dX2_take_21 (k_6 hK) rfl ?_
    refine w_iconst (q := 25) hc dX2_take_24 ci_1 rfl ?_
    refine w_iadd (q := 26) hc dX2_take_25  rfl ?_
    refine pf_X2_15 (q := 29) hc dX2_take_26 (k_6 hK) rfl (fun I_2 => ?_)
    refine w_aload_n (q := 30) (i := 0) (j := 0) hc dX2_take_29 rfl rfl rfl ?_
    refine w_callV_Wv (q := 33) (st := []) (args := []) (p := 6) hc (m_X2_findOut hK hR) dX2_take_30 ml_X2_69 cf_X2_findOut iv_X2_findOut (k_6 hK) (C := RX2) (T := TX2) (N := 13) rfl rfl (Nat.lt_of_succ_le (Nat.le_of_ble_eq_true rfl)) rfl rfl (Nat.le_of_ble_eq_true rfl) ⟨Nat.le_of_ble_eq_true rfl, Nat.le_of_ble_eq_true rfl⟩ rfl (fun q_3 => ?_)
    exact w_return hc hq dX2_take_33 rfl rfl
set_option maxRecDepth 100000 in
set_option maxHeartbeats 4000000 in
theorem wl_X2_lose_6 {G : GT Mm} {rm : Nat} (I : MI) (hc : Cx G cX2_lose yX2_lose.cls none 6 158) (hq : RetQ G anV meV) (hK : gK G = lK rm) (hR : gR G = lR rm) (hn : gnL G = 3) (k0 : ML → Option Mm) (hk0 : ∀ (L_6 : ML), WW G 36 [(0, .ref 6)] [] I L_6 (k0 L_6)) : ∀ (n : Nat) (v2_2 : Int32) (L_3 : ML), WW G 6 [(0, .ref 6), (2, .int v2_2)] [] I L_3 (f_X2_lose_6 I k0 n v2_2 L_3) := by
  have hN : ∀ i, Nat.blt i 3 = true → i < gnL G := fun i h => hn ▸ Nat.blt_eq.mp h
  intro n
  induction n with
  | zero => intros; exact w_none _ _ _
  | succ n ih =>
    intros v2_2 L_3
    rw [f_X2_lose_6]
    refine w_iload_n (q := 7) (i := 2) (j := 1) hc dX2_lose_6 rfl rfl rfl ?_
    refine w_iconst (q := 8) hc dX2_lose_7 ci_1 rfl ?_
    refine w_iadd (q := 9) hc dX2_lose_8  rfl ?_
    refine w_aload_n (q := 10) (i := 0) (j := 0) hc dX2_lose_9 rfl rfl rfl ?_
    refine gf_X2_15 (q := 13) hc dX2_lose_10 (k_6 hK) rfl ?_
    refine w_icmpge (q := 16) (tgt := 36) hc dX2_lose_13 rfl rfl ?_ ?_
    · refine w_sub [0] rfl ?_
      exact hk0 L_3
    · refine w_aload_n (q := 17) (i := 0) (j := 0) hc dX2_lose_16 rfl rfl rfl ?_
      refine gf_X2_18 (q := 20) hc dX2_lose_17 (k_6 hK) (r_6_2 hR) rfl ?_
      refine w_iload_n (q := 21) (i := 2) (j := 1) hc dX2_lose_20 rfl rfl rfl ?_
      refine w_aload_n (q := 22) (i := 0) (j := 0) hc dX2_lose_21 rfl rfl rfl ?_
      refine gf_X2_18 (q := 25) hc dX2_lose_22 (k_6 hK) (r_6_2 hR) rfl ?_
      refine w_iload_n (q := 26) (i := 2) (j := 1) hc dX2_lose_25 rfl rfl rfl ?_
      refine w_iconst (q := 27) hc dX2_lose_26 ci_1 rfl ?_
      refine w_iadd (q := 28) hc dX2_lose_27  rfl ?_
      refine w_lald (q := 29) hc dX2_lose_28 (k_7 hK) rfl ?_
      refine w_last (q := 30) hc dX2_lose_29 (k_7 hK) rfl (fun L_4 => ?_)
      refine w_iincB (q := 33) (i := 2) (j := 1) (lv' := fun v2_5 => [(2, .int v2_5), (0, .ref 6)]) hc dX2_lose_30 rfl ci_1 (hN 2 rfl) (fun _ => rfl) rfl (fun v2_5 => ?_)
      refine w_goto (tgt := 6) hc dX2_lose_33 rfl ?_
      refine w_sub [1, 0] rfl ?_
      exact ih v2_5 L_4
set_option maxRecDepth 100000 in
set_option maxHeartbeats 4000000 in
theorem m_X2_lose {l : Launch} {K : KT} {R : MR} {rm : Nat} {a1 : Int32} {I : MI} {L : ML} (hK0 : K = lK rm) (hR0 : R = lR rm) : MFg l yX2_lose cX2_lose 3 none 6 158 [.ref 6, .int a1] K R I L anV meV (f_X2_lose a1 I L) := by
  refine mf_of (plainFor_of_name (by decide)) (Nat.le_of_ble_eq_true rfl) ?_
  intro G hc _ hK1 hR1 hn hq
  have hK := hK1.trans hK0
  have hR := hR1.trans hR0
  have hN : ∀ i, Nat.blt i 3 = true → i < gnL G := fun i h => hn ▸ Nat.blt_eq.mp h
  unfold f_X2_lose
  show WW G 0 [(0, .ref 6), (1, .int a1)] [] I L _
  refine w_iload_n (q := 1) (i := 1) (j := 1) hc dX2_lose_0 rfl rfl rfl ?_
  refine w_iconst (q := 2) hc dX2_lose_1 ci_0 rfl ?_
  refine w_max (q := 5) (st := []) hc dX2_lose_2 ml_X2_72 (Nat.le_of_ble_eq_true rfl) (Nat.le_of_ble_eq_true rfl) (Nat.le_of_ble_eq_true rfl) rfl ?_
  refine w_istore_nB (q := 6) (i := 2) (lv' := fun v2_1 => [(2, .int v2_1), (0, .ref 6), (1, .int a1)]) hc dX2_lose_5 rfl (hN 2 rfl) (fun _ => rfl) rfl (fun v2_1 => ?_)
  refine w_sub [1, 0] rfl ?_
  refine wl_X2_lose_6 I hc hq hK hR hn _ ?_ FU v2_1 L
  intro L_6
  refine w_aload_n (q := 37) (i := 0) (j := 0) hc dX2_lose_36 rfl rfl rfl ?_
  refine w_aload_n (q := 38) (i := 0) (j := 0) hc dX2_lose_37 rfl rfl rfl ?_
  refine gf_X2_15 (q := 41) hc dX2_lose_38 (k_6 hK) rfl ?_
  refine w_iconst (q := 42) hc dX2_lose_41 ci_1 rfl ?_
  refine w_isub (q := 43) hc dX2_lose_42  rfl ?_
  refine w_iconst (q := 44) hc dX2_lose_43 ci_0 rfl ?_
  refine w_max (q := 47) (st := [.ref 6]) hc dX2_lose_44 ml_X2_72 (Nat.le_of_ble_eq_true rfl) (Nat.le_of_ble_eq_true rfl) (Nat.le_of_ble_eq_true rfl) rfl ?_
  refine pf_X2_15 (q := 50) hc dX2_lose_47 (k_6 hK) rfl (fun I_7 => ?_)
  refine w_aload_n (q := 51) (i := 0) (j := 0) hc dX2_lose_50 rfl rfl rfl ?_
  refine w_callV_Wv (q := 54) (st := []) (args := []) (p := 6) hc (m_X2_findOut hK hR) dX2_lose_51 ml_X2_69 cf_X2_findOut iv_X2_findOut (k_6 hK) (C := RX2) (T := TX2) (N := 13) rfl rfl (Nat.lt_of_succ_le (Nat.le_of_ble_eq_true rfl)) rfl rfl (Nat.le_of_ble_eq_true rfl) ⟨Nat.le_of_ble_eq_true rfl, Nat.le_of_ble_eq_true rfl⟩ rfl (fun q_8 => ?_)
  exact w_return hc hq dX2_lose_54 rfl rfl
set_option maxRecDepth 100000 in
set_option maxHeartbeats 4000000 in
theorem wl_X2_hasJust_12 {G : GT Bool} {rm : Nat} (a1 : Nat) (I : MI) (L : ML) (hc : Cx G cX2_hasJust yX2_hasJust.cls (some .boolean) 0 0) (hq : RetQ G anZ (meR I L)) (hK : gK G = lK rm) (hR : gR G = lR rm) (hn : gnL G = 4) (ha1 : (lK rm)[a1]? = some (11, 6)) : ∀ (n : Nat) (v3_1 : Int32), WW G 12 [(0, .ref 6), (1, .ref a1), (3, .int v3_1)] [] I L (f_X2_hasJust_12 a1 I L n v3_1) := by
  have hN : ∀ i, Nat.blt i 4 = true → i < gnL G := fun i h => hn ▸ Nat.blt_eq.mp h
  intro n
  induction n with
  | zero => intros; exact w_none _ _ _
  | succ n ih =>
    intros v3_1
    rw [f_X2_hasJust_12]
    refine w_iload_n (q := 13) (i := 3) (j := 2) hc dX2_hasJust_12 rfl rfl rfl ?_
    refine w_aload_n (q := 14) (i := 0) (j := 0) hc dX2_hasJust_13 rfl rfl rfl ?_
    refine gf_X2_15 (q := 17) hc dX2_hasJust_14 (k_6 hK) rfl ?_
    refine w_icmpge (q := 20) (tgt := 47) hc dX2_hasJust_17 rfl rfl ?_ ?_
    · refine w_iconst (q := 48) hc dX2_hasJust_47 ci_1 rfl ?_
      exact w_ireturn (v := b2i true) hc hq dX2_hasJust_48 (nar_b2i true) rfl rfl
    · refine w_iload_n (q := 21) (i := 3) (j := 2) hc dX2_hasJust_20 rfl rfl rfl ?_
      refine w_aload_n (q := 22) (i := 1) (j := 1) hc dX2_hasJust_21 rfl rfl rfl ?_
      refine w_alenJ (q := 23) hc dX2_hasJust_22 (kA hK ha1) cn_6 rfl ?_
      refine w_icmpge (q := 26) (tgt := 47) hc dX2_hasJust_23 rfl rfl ?_ ?_
      · refine w_iconst (q := 48) hc dX2_hasJust_47 ci_1 rfl ?_
        exact w_ireturn (v := b2i true) hc hq dX2_hasJust_48 (nar_b2i true) rfl rfl
      · refine w_aload_n (q := 27) (i := 0) (j := 0) hc dX2_hasJust_26 rfl rfl rfl ?_
        refine gf_X2_18 (q := 30) hc dX2_hasJust_27 (k_6 hK) (r_6_2 hR) rfl ?_
        refine w_iload_n (q := 31) (i := 3) (j := 2) hc dX2_hasJust_30 rfl rfl rfl ?_
        refine w_lald (q := 32) hc dX2_hasJust_31 (k_7 hK) rfl ?_
        refine w_aload_n (q := 33) (i := 1) (j := 1) hc dX2_hasJust_32 rfl rfl rfl ?_
        refine w_iload_n (q := 34) (i := 3) (j := 2) hc dX2_hasJust_33 rfl rfl rfl ?_
        refine w_lald (q := 35) hc dX2_hasJust_34 (kA hK ha1) rfl ?_
        refine w_lcmp (q := 36) hc dX2_hasJust_35  rfl ?_
        refine w_ifeq (q := 39) (tgt := 41) hc dX2_hasJust_36 rfl rfl ?_ ?_
        · refine w_iincB (q := 44) (i := 3) (j := 2) (lv' := fun v3_2 => [(3, .int v3_2), (0, .ref 6), (1, .ref a1)]) hc dX2_hasJust_41 rfl ci_1 (hN 3 rfl) (fun _ => rfl) rfl (fun v3_2 => ?_)
          refine w_goto (tgt := 12) hc dX2_hasJust_44 rfl ?_
          refine w_sub [1, 2, 0] rfl ?_
          exact ih v3_2
        · refine w_iconst (q := 40) hc dX2_hasJust_39 ci_0 rfl ?_
          exact w_ireturn (v := b2i false) hc hq dX2_hasJust_40 (nar_b2i false) rfl rfl
set_option maxRecDepth 100000 in
set_option maxHeartbeats 4000000 in
theorem m_X2_hasJust {l : Launch} {K : KT} {R : MR} {rm : Nat} {a1 : Nat} {a2 : Int32} {I : MI} {L : ML} (hK0 : K = lK rm) (hR0 : R = lR rm) (ha1 : (lK rm)[a1]? = some (11, 6)) : MFg l yX2_hasJust cX2_hasJust 4 (some .boolean) 0 0 [.ref 6, .ref a1, .int a2] K R I L anZ (meR I L) (f_X2_hasJust a1 a2 I L) := by
  refine mf_of (plainFor_of_name (by decide)) (Nat.le_of_ble_eq_true rfl) ?_
  intro G hc _ hK1 hR1 hn hq
  have hK := hK1.trans hK0
  have hR := hR1.trans hR0
  have hN : ∀ i, Nat.blt i 4 = true → i < gnL G := fun i h => hn ▸ Nat.blt_eq.mp h
  unfold f_X2_hasJust
  show WW G 0 [(0, .ref 6), (1, .ref a1), (2, .int a2)] [] I L _
  refine w_iload_n (q := 1) (i := 2) (j := 2) hc dX2_hasJust_0 rfl rfl rfl ?_
  refine w_aload_n (q := 2) (i := 0) (j := 0) hc dX2_hasJust_1 rfl rfl rfl ?_
  refine gf_X2_15 (q := 5) hc dX2_hasJust_2 (k_6 hK) rfl ?_
  refine w_icmpeq (q := 8) (tgt := 10) hc dX2_hasJust_5 rfl rfl ?_ ?_
  · refine w_iconst (q := 11) hc dX2_hasJust_10 ci_0 rfl ?_
    refine w_istore_n (q := 12) (i := 3) (lv' := [(3, .int 0), (0, .ref 6), (1, .ref a1), (2, .int a2)]) hc dX2_hasJust_11 rfl (hN 3 rfl) rfl rfl ?_
    refine w_sub [1, 2, 0] rfl ?_
    exact wl_X2_hasJust_12 a1 I L hc hq hK hR hn ha1 FU 0
  · refine w_iconst (q := 9) hc dX2_hasJust_8 ci_0 rfl ?_
    exact w_ireturn (v := b2i false) hc hq dX2_hasJust_9 (nar_b2i false) rfl rfl
set_option maxRecDepth 100000 in
set_option maxHeartbeats 4000000 in
theorem m_X2_hasPoint {l : Launch} {K : KT} {R : MR} {rm : Nat} {a1 : Int32} {I : MI} {L : ML} (hK0 : K = lK rm) (hR0 : R = lR rm) : MFg l yX2_hasPoint cX2_hasPoint 2 (some .boolean) 0 0 [.ref 6, .int a1] K R I L anZ (meR I L) (f_X2_hasPoint a1 I L) := by
  refine mf_of (plainFor_of_name (by decide)) (Nat.le_of_ble_eq_true rfl) ?_
  intro G hc _ hK1 hR1 hn hq
  have hK := hK1.trans hK0
  have hR := hR1.trans hR0
  have hN : ∀ i, Nat.blt i 2 = true → i < gnL G := fun i h => hn ▸ Nat.blt_eq.mp h
  unfold f_X2_hasPoint
  show WW G 0 [(0, .ref 6), (1, .int a1)] [] I L _
  refine w_iload_n (q := 1) (i := 1) (j := 1) hc dX2_hasPoint_0 rfl rfl rfl ?_
  refine w_iflt (q := 4) (tgt := 16) hc dX2_hasPoint_1 rfl rfl ?_ ?_
  · refine w_iconst (q := 17) hc dX2_hasPoint_16 ci_0 rfl ?_
    exact w_ireturn (v := b2i false) hc hq dX2_hasPoint_17 (nar_b2i false) rfl rfl
  · refine w_iload_n (q := 5) (i := 1) (j := 1) hc dX2_hasPoint_4 rfl rfl rfl ?_
    refine w_aload_n (q := 6) (i := 0) (j := 0) hc dX2_hasPoint_5 rfl rfl rfl ?_
    refine gf_X2_9 (q := 9) hc dX2_hasPoint_6 (k_6 hK) rfl ?_
    refine w_icmpge (q := 12) (tgt := 16) hc dX2_hasPoint_9 rfl rfl ?_ ?_
    · refine w_iconst (q := 17) hc dX2_hasPoint_16 ci_0 rfl ?_
      exact w_ireturn (v := b2i false) hc hq dX2_hasPoint_17 (nar_b2i false) rfl rfl
    · refine w_iconst (q := 13) hc dX2_hasPoint_12 ci_1 rfl ?_
      refine w_goto (tgt := 17) hc dX2_hasPoint_13 rfl ?_
      exact w_ireturn (v := b2i true) hc hq dX2_hasPoint_17 (nar_b2i true) rfl rfl
set_option maxRecDepth 100000 in
set_option maxHeartbeats 4000000 in
theorem m_X2_hasStep {l : Launch} {K : KT} {R : MR} {rm : Nat} {a1 : Int32} {I : MI} {L : ML} (hK0 : K = lK rm) (hR0 : R = lR rm) : MFg l yX2_hasStep cX2_hasStep 2 (some .boolean) 0 0 [.ref 6, .int a1] K R I L anZ (meR I L) (f_X2_hasStep a1 I L) := by
  refine mf_of (plainFor_of_name (by decide)) (Nat.le_of_ble_eq_true rfl) ?_
  intro G hc _ hK1 hR1 hn hq
  have hK := hK1.trans hK0
  have hR := hR1.trans hR0
  have hN : ∀ i, Nat.blt i 2 = true → i < gnL G := fun i h => hn ▸ Nat.blt_eq.mp h
  unfold f_X2_hasStep
  show WW G 0 [(0, .ref 6), (1, .int a1)] [] I L _
  refine w_iload_n (q := 1) (i := 1) (j := 1) hc dX2_hasStep_0 rfl rfl rfl ?_
  refine w_iflt (q := 4) (tgt := 18) hc dX2_hasStep_1 rfl rfl ?_ ?_
  · refine w_iconst (q := 19) hc dX2_hasStep_18 ci_0 rfl ?_
    exact w_ireturn (v := b2i false) hc hq dX2_hasStep_19 (nar_b2i false) rfl rfl
  · refine w_iload_n (q := 5) (i := 1) (j := 1) hc dX2_hasStep_4 rfl rfl rfl ?_
    refine w_iconst (q := 6) hc dX2_hasStep_5 ci_2 rfl ?_
    refine w_aload_n (q := 7) (i := 0) (j := 0) hc dX2_hasStep_6 rfl rfl rfl ?_
    refine gf_X2_15 (q := 10) hc dX2_hasStep_7 (k_6 hK) rfl ?_
    refine w_imul (q := 11) hc dX2_hasStep_10  rfl ?_
    refine w_icmpge (q := 14) (tgt := 18) hc dX2_hasStep_11 rfl rfl ?_ ?_
    · refine w_iconst (q := 19) hc dX2_hasStep_18 ci_0 rfl ?_
      exact w_ireturn (v := b2i false) hc hq dX2_hasStep_19 (nar_b2i false) rfl rfl
    · refine w_iconst (q := 15) hc dX2_hasStep_14 ci_1 rfl ?_
      refine w_goto (tgt := 19) hc dX2_hasStep_15 rfl ?_
      exact w_ireturn (v := b2i true) hc hq dX2_hasStep_19 (nar_b2i true) rfl rfl
set_option maxRecDepth 100000 in
set_option maxHeartbeats 4000000 in
theorem m_X2_hasMoves {l : Launch} {K : KT} {R : MR} {rm : Nat} {a1 : Int32} {I : MI} {L : ML} (hK0 : K = lK rm) (hR0 : R = lR rm) : MFg l yX2_hasMoves cX2_hasMoves 2 (some .boolean) 1 20 [.ref 6, .int a1] K R I L anZ (meR I L) (f_X2_hasMoves a1 I L) := by
  refine mf_of (plainFor_of_name (by decide)) (Nat.le_of_ble_eq_true rfl) ?_
  intro G hc _ hK1 hR1 hn hq
  have hK := hK1.trans hK0
  have hR := hR1.trans hR0
  have hN : ∀ i, Nat.blt i 2 = true → i < gnL G := fun i h => hn ▸ Nat.blt_eq.mp h
  unfold f_X2_hasMoves
  show WW G 0 [(0, .ref 6), (1, .int a1)] [] I L _
  refine w_iload_n (q := 1) (i := 1) (j := 1) hc dX2_hasMoves_0 rfl rfl rfl ?_
  refine w_aload_n (q := 2) (i := 0) (j := 0) hc dX2_hasMoves_1 rfl rfl rfl ?_
  refine w_callV_Ri (q := 5) (st := [.int a1]) (args := []) (p := 6) hc (m_X2_everyMove hK hR) dX2_hasMoves_2 ml_X2_75 cf_X2_everyMove iv_X2_everyMove (k_6 hK) (C := RX2) (T := TX2) (N := 13) rfl rfl (Nat.lt_of_succ_le (Nat.le_of_ble_eq_true rfl)) rfl rfl (Nat.le_of_ble_eq_true rfl) ⟨Nat.le_of_ble_eq_true rfl, Nat.le_of_ble_eq_true rfl⟩ rfl (fun q_1 => ?_)
  refine w_iconst (q := 6) hc dX2_hasMoves_5 ci_m1 rfl ?_
  refine w_ixor (q := 7) hc dX2_hasMoves_6  rfl ?_
  refine w_iand (q := 8) hc dX2_hasMoves_7  rfl ?_
  refine w_ifne (q := 11) (tgt := 15) hc dX2_hasMoves_8 rfl rfl ?_ ?_
  · refine w_iconst (q := 12) hc dX2_hasMoves_11 ci_1 rfl ?_
    refine w_goto (tgt := 16) hc dX2_hasMoves_12 rfl ?_
    exact w_ireturn (v := b2i true) hc hq dX2_hasMoves_16 (nar_b2i true) rfl rfl
  · refine w_iconst (q := 16) hc dX2_hasMoves_15 ci_0 rfl ?_
    exact w_ireturn (v := b2i false) hc hq dX2_hasMoves_16 (nar_b2i false) rfl rfl
set_option maxRecDepth 100000 in
set_option maxHeartbeats 4000000 in
theorem m_X2_hasSet {l : Launch} {K : KT} {R : MR} {rm : Nat} {a1 : Int32} {I : MI} {L : ML} (hK0 : K = lK rm) (hR0 : R = lR rm) : MFg l yX2_hasSet cX2_hasSet 2 (some .boolean) 0 0 [.ref 6, .int a1] K R I L anZ (meR I L) (f_X2_hasSet a1 I L) := by
  refine mf_of (plainFor_of_name (by decide)) (Nat.le_of_ble_eq_true rfl) ?_
  intro G hc _ hK1 hR1 hn hq
  have hK := hK1.trans hK0
  have hR := hR1.trans hR0
  have hN : ∀ i, Nat.blt i 2 = true → i < gnL G := fun i h => hn ▸ Nat.blt_eq.mp h
  unfold f_X2_hasSet
  show WW G 0 [(0, .ref 6), (1, .int a1)] [] I L _
  refine w_iload_n (q := 1) (i := 1) (j := 1) hc dX2_hasSet_0 rfl rfl rfl ?_
  refine w_ifeq (q := 4) (tgt := 23) hc dX2_hasSet_1 rfl rfl ?_ ?_
  · refine w_iconst (q := 24) hc dX2_hasSet_23 ci_0 rfl ?_
    exact w_ireturn (v := b2i false) hc hq dX2_hasSet_24 (nar_b2i false) rfl rfl
  · refine w_iload_n (q := 5) (i := 1) (j := 1) hc dX2_hasSet_4 rfl rfl rfl ?_
    refine w_iconst (q := 6) hc dX2_hasSet_5 ci_1 rfl ?_
    refine w_aload_n (q := 7) (i := 0) (j := 0) hc dX2_hasSet_6 rfl rfl rfl ?_
    refine gf_X2_9 (q := 10) hc dX2_hasSet_7 (k_6 hK) rfl ?_
    refine w_ishl (q := 11) hc dX2_hasSet_10  rfl ?_
    refine w_iconst (q := 12) hc dX2_hasSet_11 ci_1 rfl ?_
    refine w_isub (q := 13) hc dX2_hasSet_12  rfl ?_
    refine w_iconst (q := 14) hc dX2_hasSet_13 ci_m1 rfl ?_
    refine w_ixor (q := 15) hc dX2_hasSet_14  rfl ?_
    refine w_iand (q := 16) hc dX2_hasSet_15  rfl ?_
    refine w_ifne (q := 19) (tgt := 23) hc dX2_hasSet_16 rfl rfl ?_ ?_
    · refine w_iconst (q := 20) hc dX2_hasSet_19 ci_1 rfl ?_
      refine w_goto (tgt := 24) hc dX2_hasSet_20 rfl ?_
      exact w_ireturn (v := b2i true) hc hq dX2_hasSet_24 (nar_b2i true) rfl rfl
    · refine w_iconst (q := 24) hc dX2_hasSet_23 ci_0 rfl ?_
      exact w_ireturn (v := b2i false) hc hq dX2_hasSet_24 (nar_b2i false) rfl rfl
set_option maxRecDepth 100000 in
set_option maxHeartbeats 4000000 in
theorem m_X2_turnOf {l : Launch} {K : KT} {R : MR} {rm : Nat} {a1 : Int32} {I : MI} {L : ML} (hK0 : K = lK rm) (hR0 : R = lR rm) : MFg l yX2_turnOf cX2_turnOf 4 (some .long) 1 26 [.ref 6, .int a1] K R I L anL (meR I L) (f_X2_turnOf a1 I L) := by
  refine mf_of (plainFor_of_name (by decide)) (Nat.le_of_ble_eq_true rfl) ?_
  intro G hc _ hK1 hR1 hn hq
  have hK := hK1.trans hK0
  have hR := hR1.trans hR0
  have hN : ∀ i, Nat.blt i 4 = true → i < gnL G := fun i h => hn ▸ Nat.blt_eq.mp h
  unfold f_X2_turnOf
  show WW G 0 [(0, .ref 6), (1, .int a1)] [] I L _
  refine w_aload_n (q := 1) (i := 0) (j := 0) hc dX2_turnOf_0 rfl rfl rfl ?_
  refine gf_X2_18 (q := 4) hc dX2_turnOf_1 (k_6 hK) (r_6_2 hR) rfl ?_
  refine w_iload_n (q := 5) (i := 1) (j := 1) hc dX2_turnOf_4 rfl rfl rfl ?_
  refine w_iconst (q := 6) hc dX2_turnOf_5 ci_1 rfl ?_
  refine w_ishr (q := 7) hc dX2_turnOf_6  rfl ?_
  refine w_lald (q := 8) hc dX2_turnOf_7 (k_7 hK) rfl ?_
  refine w_lstore_nB (q := 9) (i := 2) (lv' := fun v2_1 => [(2, .long v2_1), (0, .ref 6), (1, .int a1)]) hc dX2_turnOf_8 rfl (hN 3 rfl) (fun _ => rfl) rfl (fun v2_1 => ?_)
  refine w_iload_n (q := 10) (i := 1) (j := 2) hc dX2_turnOf_9 rfl rfl rfl ?_
  refine w_iconst (q := 11) hc dX2_turnOf_10 ci_1 rfl ?_
  refine w_iand (q := 12) hc dX2_turnOf_11  rfl ?_
  refine w_ifne (q := 15) (tgt := 19) hc dX2_turnOf_12 rfl rfl ?_ ?_
  · refine w_lload_n (q := 16) (i := 2) (j := 0) hc dX2_turnOf_15 rfl rfl rfl ?_
    refine w_goto (tgt := 27) hc dX2_turnOf_16 rfl ?_
    exact w_lreturn hc hq dX2_turnOf_27 rfl rfl
  · refine w_lload_n (q := 20) (i := 2) (j := 0) hc dX2_turnOf_19 rfl rfl rfl ?_
    refine w_aload_n (q := 21) (i := 0) (j := 1) hc dX2_turnOf_20 rfl rfl rfl ?_
    refine gf_X2_9 (q := 24) hc dX2_turnOf_21 (k_6 hK) rfl ?_
    refine w_callS_Rl (q := 27) (st := []) (args := [.long v2_1, .int (I 6 0)]) hc (m_X6_invert hK hR) dX2_turnOf_24 ml_X2_86 cf_X6_invert st_X6_invert rfl rfl (Nat.le_of_ble_eq_true rfl) ⟨Nat.le_of_ble_eq_true rfl, Nat.le_of_ble_eq_true rfl⟩ rfl (fun q_2 => ?_)
    exact w_lreturn hc hq dX2_turnOf_27 rfl rfl
set_option maxRecDepth 100000 in
set_option maxHeartbeats 4000000 in
theorem m_X2_size {l : Launch} {K : KT} {R : MR} {rm : Nat} {I : MI} {L : ML} (hK0 : K = lK rm) (hR0 : R = lR rm) : MFg l yX2_size cX2_size 1 (some .int) 3 63 [.ref 6] K R I L anI (meR I L) (f_X2_size I L) := by
  refine mf_of (plainFor_of_name (by decide)) (Nat.le_of_ble_eq_true rfl) ?_
  intro G hc _ hK1 hR1 hn hq
  have hK := hK1.trans hK0
  have hR := hR1.trans hR0
  have hN : ∀ i, Nat.blt i 1 = true → i < gnL G := fun i h => hn ▸ Nat.blt_eq.mp h
  unfold f_X2_size
  show WW G 0 [(0, .ref 6)] [] I L _
  refine w_aload_n (q := 1) (i := 0) (j := 0) hc dX2_size_0 rfl rfl rfl ?_
  refine gf_X2_25 (q := 4) hc dX2_size_1 (k_6 hK) (r_6_3 hR) rfl ?_
  refine w_callV_Ri (q := 7) (st := []) (args := []) (p := 8) hc (m_X0_size hK hR (ch_8)) dX2_size_4 ml_X2_92 cf_X0_size iv_X0_size (k_8 hK) (C := RX0) (T := TX0) (N := 8) rfl rfl (Nat.lt_of_succ_le (Nat.le_of_ble_eq_true rfl)) rfl rfl (Nat.le_of_ble_eq_true rfl) ⟨Nat.le_of_ble_eq_true rfl, Nat.le_of_ble_eq_true rfl⟩ rfl (fun q_1 => ?_)
  exact w_ireturn (v := q_1) hc hq dX2_size_7 rfl rfl rfl
set_option maxRecDepth 100000 in
set_option maxHeartbeats 4000000 in
theorem wl_X2_imagesOf_6 {G : GT Int32} {rm : Nat} (v1_1 : Int32) (v2_2 : Int64) (I : MI) (L : ML) (hc : Cx G cX2_imagesOf yX2_imagesOf.cls (some .int) 1 22) (hq : RetQ G anI (meR I L)) (hK : gK G = lK rm) (hR : gR G = lR rm) (hn : gnL G = 6) : ∀ (n : Nat) (v4_3 : Int32) (v5_4 : Int32), WW G 6 [(0, .ref 6), (1, .int v1_1), (2, .long v2_2), (4, .int v4_3), (5, .int v5_4)] [] I L (f_X2_imagesOf_6 v1_1 v2_2 I L n v4_3 v5_4) := by
  have hN : ∀ i, Nat.blt i 6 = true → i < gnL G := fun i h => hn ▸ Nat.blt_eq.mp h
  intro n
  induction n with
  | zero => intros; exact w_none _ _ _
  | succ n ih =>
    intros v4_3 v5_4
    rw [f_X2_imagesOf_6]
    refine w_iload (q := 8) (i := 5) (j := 4) hc dX2_imagesOf_6 rfl rfl ?_
    refine w_aload_n (q := 9) (i := 0) (j := 0) hc dX2_imagesOf_8 rfl rfl rfl ?_
    refine gf_X2_9 (q := 12) hc dX2_imagesOf_9 (k_6 hK) rfl ?_
    refine w_icmpge (q := 15) (tgt := 43) hc dX2_imagesOf_12 rfl rfl ?_ ?_
    · refine w_iload (q := 45) (i := 4) (j := 3) hc dX2_imagesOf_43 rfl rfl ?_
      exact w_ireturn (v := v4_3) hc hq dX2_imagesOf_45 rfl rfl rfl
    · refine w_iload_n (q := 16) (i := 1) (j := 1) hc dX2_imagesOf_15 rfl rfl rfl ?_
      refine w_iload (q := 18) (i := 5) (j := 4) hc dX2_imagesOf_16 rfl rfl ?_
      refine w_ishr (q := 19) hc dX2_imagesOf_18  rfl ?_
      refine w_iconst (q := 20) hc dX2_imagesOf_19 ci_1 rfl ?_
      refine w_iand (q := 21) hc dX2_imagesOf_20  rfl ?_
      refine w_ifeq (q := 24) (tgt := 37) hc dX2_imagesOf_21 rfl rfl ?_ ?_
      · refine w_iincB (q := 40) (i := 5) (j := 4) (lv' := fun v5_5 => [(5, .int v5_5), (0, .ref 6), (1, .int v1_1), (2, .long v2_2), (4, .int v4_3)]) hc dX2_imagesOf_37 rfl ci_1 (hN 5 rfl) (fun _ => rfl) rfl (fun v5_5 => ?_)
        refine w_goto (tgt := 6) hc dX2_imagesOf_40 rfl ?_
        refine w_sub [1, 2, 3, 4, 0] rfl ?_
        exact ih v4_3 v5_5
      · refine w_iload (q := 26) (i := 4) (j := 3) hc dX2_imagesOf_24 rfl rfl ?_
        refine w_iconst (q := 27) hc dX2_imagesOf_26 ci_1 rfl ?_
        refine w_lload_n (q := 28) (i := 2) (j := 2) hc dX2_imagesOf_27 rfl rfl rfl ?_
        refine w_iload (q := 30) (i := 5) (j := 4) hc dX2_imagesOf_28 rfl rfl ?_
        refine w_callS_Ri (q := 33) (st := [.int 1, .int v4_3]) (args := [.long v2_2, .int v5_4]) hc (m_X6_image hK hR) dX2_imagesOf_30 ml_X2_99 cf_X6_image st_X6_image rfl rfl (Nat.le_of_ble_eq_true rfl) ⟨Nat.le_of_ble_eq_true rfl, Nat.le_of_ble_eq_true rfl⟩ rfl (fun q_6 => ?_)
        refine w_ishl (q := 34) hc dX2_imagesOf_33  rfl ?_
        refine w_ior (q := 35) hc dX2_imagesOf_34  rfl ?_
        refine w_istoreB (q := 37) (i := 4) (lv' := fun v4_7 => [(4, .int v4_7), (0, .ref 6), (1, .int v1_1), (2, .long v2_2), (5, .int v5_4)]) hc dX2_imagesOf_35 (hN 4 rfl) (fun _ => rfl) rfl (fun v4_7 => ?_)
        refine w_iincB (q := 40) (i := 5) (j := 4) (lv' := fun v5_8 => [(5, .int v5_8), (4, .int v4_7), (0, .ref 6), (1, .int v1_1), (2, .long v2_2)]) hc dX2_imagesOf_37 rfl ci_1 (hN 5 rfl) (fun _ => rfl) rfl (fun v5_8 => ?_)
        refine w_goto (tgt := 6) hc dX2_imagesOf_40 rfl ?_
        refine w_sub [2, 3, 4, 1, 0] rfl ?_
        exact ih v4_7 v5_8
set_option maxRecDepth 100000 in
set_option maxHeartbeats 4000000 in
theorem m_X2_imagesOf {l : Launch} {K : KT} {R : MR} {rm : Nat} {a1 : Int32} {a2 : Int64} {I : MI} {L : ML} (hK0 : K = lK rm) (hR0 : R = lR rm) : MFg l yX2_imagesOf cX2_imagesOf 6 (some .int) 1 22 [.ref 6, .int a1, .long a2] K R I L anI (meR I L) (f_X2_imagesOf a1 a2 I L) := by
  refine mf_of (plainFor_of_name (by decide)) (Nat.le_of_ble_eq_true rfl) ?_
  intro G hc _ hK1 hR1 hn hq
  have hK := hK1.trans hK0
  have hR := hR1.trans hR0
  have hN : ∀ i, Nat.blt i 6 = true → i < gnL G := fun i h => hn ▸ Nat.blt_eq.mp h
  unfold f_X2_imagesOf
  show WW G 0 [(0, .ref 6), (1, .int a1), (2, .long a2)] [] I L _
  refine w_iconst (q := 1) hc dX2_imagesOf_0 ci_0 rfl ?_
  refine w_istore (q := 3) (i := 4) (lv' := [(4, .int 0), (0, .ref 6), (1, .int a1), (2, .long a2)]) hc dX2_imagesOf_1 (hN 4 rfl) rfl rfl ?_
  refine w_iconst (q := 4) hc dX2_imagesOf_3 ci_0 rfl ?_
  refine w_istore (q := 6) (i := 5) (lv' := [(5, .int 0), (4, .int 0), (0, .ref 6), (1, .int a1), (2, .long a2)]) hc dX2_imagesOf_4 (hN 5 rfl) rfl rfl ?_
  refine w_sub [2, 3, 4, 1, 0] rfl ?_
  exact wl_X2_imagesOf_6 a1 a2 I L hc hq hK hR hn FU 0 0
set_option maxRecDepth 100000 in
set_option maxHeartbeats 4000000 in
theorem wl_X2_reachedFrom_26 {G : GT Int32} {rm : Nat} (v3_6 : Int32) (v4_7 : Int32) (I : MI) (L : ML) (hc : Cx G cX2_reachedFrom yX2_reachedFrom.cls (some .int) 2 47) (hq : RetQ G anI (meR I L)) (hK : gK G = lK rm) (hR : gR G = lR rm) (hn : gnL G = 6) (k0 : Int32 → Option Int32) (hk0 : ∀ (v2_12 : Int32), WW G 56 [(0, .ref 6), (2, .int v2_12), (3, .int v3_6), (4, .int v4_7)] [] I L (k0 v2_12)) : ∀ (n : Nat) (v2_5 : Int32) (v5_8 : Int32), WW G 26 [(0, .ref 6), (2, .int v2_5), (3, .int v3_6), (4, .int v4_7), (5, .int v5_8)] [] I L (f_X2_reachedFrom_26 v3_6 v4_7 I L k0 n v2_5 v5_8) := by
  have hN : ∀ i, Nat.blt i 6 = true → i < gnL G := fun i h => hn ▸ Nat.blt_eq.mp h
  intro n
  induction n with
  | zero => intros; exact w_none _ _ _
  | succ n ih =>
    intros v2_5 v5_8
    rw [f_X2_reachedFrom_26]
    refine w_iload (q := 28) (i := 5) (j := 4) hc dX2_reachedFrom_26 rfl rfl ?_
    refine w_aload_n (q := 29) (i := 0) (j := 0) hc dX2_reachedFrom_28 rfl rfl rfl ?_
    refine gf_X2_15 (q := 32) hc dX2_reachedFrom_29 (k_6 hK) rfl ?_
    refine w_icmpge (q := 35) (tgt := 56) hc dX2_reachedFrom_32 rfl rfl ?_ ?_
    · refine w_sub [0, 1, 2, 3] rfl ?_
      exact hk0 v2_5
    · refine w_iload_n (q := 36) (i := 2) (j := 1) hc dX2_reachedFrom_35 rfl rfl rfl ?_
      refine w_aload_n (q := 37) (i := 0) (j := 0) hc dX2_reachedFrom_36 rfl rfl rfl ?_
      refine w_iload_n (q := 38) (i := 2) (j := 1) hc dX2_reachedFrom_37 rfl rfl rfl ?_
      refine w_aload_n (q := 39) (i := 0) (j := 0) hc dX2_reachedFrom_38 rfl rfl rfl ?_
      refine gf_X2_18 (q := 42) hc dX2_reachedFrom_39 (k_6 hK) (r_6_2 hR) rfl ?_
      refine w_iload (q := 44) (i := 5) (j := 4) hc dX2_reachedFrom_42 rfl rfl ?_
      refine w_lald (q := 45) hc dX2_reachedFrom_44 (k_7 hK) rfl ?_
      refine w_callV_Ri (q := 48) (st := [.int v2_5]) (args := [.int v2_5, .long (L 7 (ix v5_8))]) (p := 6) hc (m_X2_imagesOf hK hR) dX2_reachedFrom_45 ml_X2_95 cf_X2_imagesOf iv_X2_imagesOf (k_6 hK) (C := RX2) (T := TX2) (N := 13) rfl rfl (Nat.lt_of_succ_le (Nat.le_of_ble_eq_true rfl)) rfl rfl (Nat.le_of_ble_eq_true rfl) ⟨Nat.le_of_ble_eq_true rfl, Nat.le_of_ble_eq_true rfl⟩ rfl (fun q_9 => ?_)
      refine w_ior (q := 49) hc dX2_reachedFrom_48  rfl ?_
      refine w_istore_nB (q := 50) (i := 2) (lv' := fun v2_10 => [(2, .int v2_10), (0, .ref 6), (3, .int v3_6), (4, .int v4_7), (5, .int v5_8)]) hc dX2_reachedFrom_49 rfl (hN 2 rfl) (fun _ => rfl) rfl (fun v2_10 => ?_)
      refine w_iincB (q := 53) (i := 5) (j := 4) (lv' := fun v5_11 => [(5, .int v5_11), (2, .int v2_10), (0, .ref 6), (3, .int v3_6), (4, .int v4_7)]) hc dX2_reachedFrom_50 rfl ci_1 (hN 5 rfl) (fun _ => rfl) rfl (fun v5_11 => ?_)
      refine w_goto (tgt := 26) hc dX2_reachedFrom_53 rfl ?_
      refine w_sub [2, 1, 3, 4, 0] rfl ?_
      exact ih v2_10 v5_11
set_option maxRecDepth 100000 in
set_option maxHeartbeats 4000000 in
theorem wl_X2_reachedFrom_9 {G : GT Int32} {rm : Nat} (I : MI) (L : ML) (hc : Cx G cX2_reachedFrom yX2_reachedFrom.cls (some .int) 2 47) (hq : RetQ G anI (meR I L)) (hK : gK G = lK rm) (hR : gR G = lR rm) (hn : gnL G = 6) : ∀ (n : Nat) (v2_2 : Int32) (v3_3 : Int32) (v4_4 : Int32), WW G 9 [(0, .ref 6), (2, .int v2_2), (3, .int v3_3), (4, .int v4_4)] [] I L (f_X2_reachedFrom_9 I L n v2_2 v3_3 v4_4) := by
  have hN : ∀ i, Nat.blt i 6 = true → i < gnL G := fun i h => hn ▸ Nat.blt_eq.mp h
  intro n
  induction n with
  | zero => intros; exact w_none _ _ _
  | succ n ih =>
    intros v2_2 v3_3 v4_4
    rw [f_X2_reachedFrom_9]
    refine w_iload (q := 11) (i := 4) (j := 3) hc dX2_reachedFrom_9 rfl rfl ?_
    refine w_bipush (q := 13) hc dX2_reachedFrom_11 cb_10 rfl ?_
    refine w_icmpge (q := 16) (tgt := 62) hc dX2_reachedFrom_13 rfl rfl ?_ ?_
    · refine w_iload_n (q := 63) (i := 2) (j := 1) hc dX2_reachedFrom_62 rfl rfl rfl ?_
      exact w_ireturn (v := v2_2) hc hq dX2_reachedFrom_63 rfl rfl rfl
    · refine w_iload_n (q := 17) (i := 2) (j := 1) hc dX2_reachedFrom_16 rfl rfl rfl ?_
      refine w_iload_n (q := 18) (i := 3) (j := 2) hc dX2_reachedFrom_17 rfl rfl rfl ?_
      refine w_icmpeq (q := 21) (tgt := 62) hc dX2_reachedFrom_18 rfl rfl ?_ ?_
      · refine w_iload_n (q := 63) (i := 2) (j := 1) hc dX2_reachedFrom_62 rfl rfl rfl ?_
        exact w_ireturn (v := v2_2) hc hq dX2_reachedFrom_63 rfl rfl rfl
      · refine w_iload_n (q := 22) (i := 2) (j := 1) hc dX2_reachedFrom_21 rfl rfl rfl ?_
        refine w_istore_n (q := 23) (i := 3) (lv' := [(3, .int v2_2), (0, .ref 6), (2, .int v2_2), (4, .int v4_4)]) hc dX2_reachedFrom_22 rfl (hN 3 rfl) rfl rfl ?_
        refine w_iconst (q := 24) hc dX2_reachedFrom_23 ci_0 rfl ?_
        refine w_istore (q := 26) (i := 5) (lv' := [(5, .int 0), (3, .int v2_2), (0, .ref 6), (2, .int v2_2), (4, .int v4_4)]) hc dX2_reachedFrom_24 (hN 5 rfl) rfl rfl ?_
        refine w_sub [2, 3, 1, 4, 0] rfl ?_
        refine wl_X2_reachedFrom_26 v2_2 v4_4 I L hc hq hK hR hn _ ?_ FU v2_2 0
        intro v2_12
        refine w_iincB (q := 59) (i := 4) (j := 3) (lv' := fun v4_13 => [(4, .int v4_13), (0, .ref 6), (2, .int v2_12), (3, .int v2_2)]) hc dX2_reachedFrom_56 rfl ci_1 (hN 4 rfl) (fun _ => rfl) rfl (fun v4_13 => ?_)
        refine w_goto (tgt := 9) hc dX2_reachedFrom_59 rfl ?_
        refine w_sub [1, 2, 3, 0] rfl ?_
        exact ih v2_12 v2_2 v4_13
set_option maxRecDepth 100000 in
set_option maxHeartbeats 4000000 in
theorem m_X2_reachedFrom {l : Launch} {K : KT} {R : MR} {rm : Nat} {a1 : Int32} {I : MI} {L : ML} (hK0 : K = lK rm) (hR0 : R = lR rm) : MFg l yX2_reachedFrom cX2_reachedFrom 6 (some .int) 2 47 [.ref 6, .int a1] K R I L anI (meR I L) (f_X2_reachedFrom a1 I L) := by
  refine mf_of (plainFor_of_name (by decide)) (Nat.le_of_ble_eq_true rfl) ?_
  intro G hc _ hK1 hR1 hn hq
  have hK := hK1.trans hK0
  have hR := hR1.trans hR0
  have hN : ∀ i, Nat.blt i 6 = true → i < gnL G := fun i h => hn ▸ Nat.blt_eq.mp h
  unfold f_X2_reachedFrom
  show WW G 0 [(0, .ref 6), (1, .int a1)] [] I L _
  refine w_iconst (q := 1) hc dX2_reachedFrom_0 ci_1 rfl ?_
  refine w_iload_n (q := 2) (i := 1) (j := 1) hc dX2_reachedFrom_1 rfl rfl rfl ?_
  refine w_ishl (q := 3) hc dX2_reachedFrom_2  rfl ?_
  refine w_istore_nB (q := 4) (i := 2) (lv' := fun v2_1 => [(2, .int v2_1), (0, .ref 6), (1, .int a1)]) hc dX2_reachedFrom_3 rfl (hN 2 rfl) (fun _ => rfl) rfl (fun v2_1 => ?_)
  refine w_iconst (q := 5) hc dX2_reachedFrom_4 ci_0 rfl ?_
  refine w_istore_n (q := 6) (i := 3) (lv' := [(3, .int 0), (2, .int v2_1), (0, .ref 6), (1, .int a1)]) hc dX2_reachedFrom_5 rfl (hN 3 rfl) rfl rfl ?_
  refine w_iconst (q := 7) hc dX2_reachedFrom_6 ci_0 rfl ?_
  refine w_istore (q := 9) (i := 4) (lv' := [(4, .int 0), (3, .int 0), (2, .int v2_1), (0, .ref 6), (1, .int a1)]) hc dX2_reachedFrom_7 (hN 4 rfl) rfl rfl ?_
  refine w_sub [3, 2, 1, 0] rfl ?_
  exact wl_X2_reachedFrom_9 I L hc hq hK hR hn FU v2_1 0 0
set_option maxRecDepth 100000 in
set_option maxHeartbeats 4000000 in
theorem wl_X2_countOrbits_6 {G : GT Int32} {rm : Nat} (I : MI) (L : ML) (hc : Cx G cX2_countOrbits yX2_countOrbits.cls (some .int) 3 72) (hq : RetQ G anI (meR I L)) (hK : gK G = lK rm) (hR : gR G = lR rm) (hn : gnL G = 4) : ∀ (n : Nat) (v1_1 : Int32) (v2_2 : Int32) (v3_3 : Int32), WW G 6 [(0, .ref 6), (1, .int v1_1), (2, .int v2_2), (3, .int v3_3)] [] I L (f_X2_countOrbits_6 I L n v1_1 v2_2 v3_3) := by
  have hN : ∀ i, Nat.blt i 4 = true → i < gnL G := fun i h => hn ▸ Nat.blt_eq.mp h
  intro n
  induction n with
  | zero => intros; exact w_none _ _ _
  | succ n ih =>
    intros v1_1 v2_2 v3_3
    rw [f_X2_countOrbits_6]
    refine w_iload_n (q := 7) (i := 3) (j := 3) hc dX2_countOrbits_6 rfl rfl rfl ?_
    refine w_aload_n (q := 8) (i := 0) (j := 0) hc dX2_countOrbits_7 rfl rfl rfl ?_
    refine gf_X2_9 (q := 11) hc dX2_countOrbits_8 (k_6 hK) rfl ?_
    refine w_icmpge (q := 14) (tgt := 39) hc dX2_countOrbits_11 rfl rfl ?_ ?_
    · refine w_iload_n (q := 40) (i := 1) (j := 1) hc dX2_countOrbits_39 rfl rfl rfl ?_
      exact w_ireturn (v := v1_1) hc hq dX2_countOrbits_40 rfl rfl rfl
    · refine w_iload_n (q := 15) (i := 2) (j := 2) hc dX2_countOrbits_14 rfl rfl rfl ?_
      refine w_iload_n (q := 16) (i := 3) (j := 3) hc dX2_countOrbits_15 rfl rfl rfl ?_
      refine w_ishr (q := 17) hc dX2_countOrbits_16  rfl ?_
      refine w_iconst (q := 18) hc dX2_countOrbits_17 ci_1 rfl ?_
      refine w_iand (q := 19) hc dX2_countOrbits_18  rfl ?_
      refine w_ifne (q := 22) (tgt := 33) hc dX2_countOrbits_19 rfl rfl ?_ ?_
      · refine w_iload_n (q := 23) (i := 2) (j := 2) hc dX2_countOrbits_22 rfl rfl rfl ?_
        refine w_aload_n (q := 24) (i := 0) (j := 0) hc dX2_countOrbits_23 rfl rfl rfl ?_
        refine w_iload_n (q := 25) (i := 3) (j := 3) hc dX2_countOrbits_24 rfl rfl rfl ?_
        refine w_callV_Ri (q := 28) (st := [.int v2_2]) (args := [.int v3_3]) (p := 6) hc (m_X2_reachedFrom hK hR) dX2_countOrbits_25 ml_X2_103 cf_X2_reachedFrom iv_X2_reachedFrom (k_6 hK) (C := RX2) (T := TX2) (N := 13) rfl rfl (Nat.lt_of_succ_le (Nat.le_of_ble_eq_true rfl)) rfl rfl (Nat.le_of_ble_eq_true rfl) ⟨Nat.le_of_ble_eq_true rfl, Nat.le_of_ble_eq_true rfl⟩ rfl (fun q_5 => ?_)
        refine w_ior (q := 29) hc dX2_countOrbits_28  rfl ?_
        refine w_istore_nB (q := 30) (i := 2) (lv' := fun v2_6 => [(2, .int v2_6), (0, .ref 6), (1, .int v1_1), (3, .int v3_3)]) hc dX2_countOrbits_29 rfl (hN 2 rfl) (fun _ => rfl) rfl (fun v2_6 => ?_)
        refine w_iincB (q := 33) (i := 1) (j := 2) (lv' := fun v1_7 => [(1, .int v1_7), (2, .int v2_6), (0, .ref 6), (3, .int v3_3)]) hc dX2_countOrbits_30 rfl ci_1 (hN 1 rfl) (fun _ => rfl) rfl (fun v1_7 => ?_)
        refine w_iincB (q := 36) (i := 3) (j := 3) (lv' := fun v3_8 => [(3, .int v3_8), (1, .int v1_7), (2, .int v2_6), (0, .ref 6)]) hc dX2_countOrbits_33 rfl ci_1 (hN 3 rfl) (fun _ => rfl) rfl (fun v3_8 => ?_)
        refine w_goto (tgt := 6) hc dX2_countOrbits_36 rfl ?_
        refine w_sub [3, 1, 2, 0] rfl ?_
        exact ih v1_7 v2_6 v3_8
      · refine w_iincB (q := 36) (i := 3) (j := 3) (lv' := fun v3_4 => [(3, .int v3_4), (0, .ref 6), (1, .int v1_1), (2, .int v2_2)]) hc dX2_countOrbits_33 rfl ci_1 (hN 3 rfl) (fun _ => rfl) rfl (fun v3_4 => ?_)
        refine w_goto (tgt := 6) hc dX2_countOrbits_36 rfl ?_
        refine w_sub [1, 2, 3, 0] rfl ?_
        exact ih v1_1 v2_2 v3_4
set_option maxRecDepth 100000 in
set_option maxHeartbeats 4000000 in
theorem m_X2_countOrbits {l : Launch} {K : KT} {R : MR} {rm : Nat} {I : MI} {L : ML} (hK0 : K = lK rm) (hR0 : R = lR rm) : MFg l yX2_countOrbits cX2_countOrbits 4 (some .int) 3 72 [.ref 6] K R I L anI (meR I L) (f_X2_countOrbits I L) := by
  refine mf_of (plainFor_of_name (by decide)) (Nat.le_of_ble_eq_true rfl) ?_
  intro G hc _ hK1 hR1 hn hq
  have hK := hK1.trans hK0
  have hR := hR1.trans hR0
  have hN : ∀ i, Nat.blt i 4 = true → i < gnL G := fun i h => hn ▸ Nat.blt_eq.mp h
  unfold f_X2_countOrbits
  show WW G 0 [(0, .ref 6)] [] I L _
  refine w_iconst (q := 1) hc dX2_countOrbits_0 ci_0 rfl ?_
  refine w_istore_n (q := 2) (i := 1) (lv' := [(1, .int 0), (0, .ref 6)]) hc dX2_countOrbits_1 rfl (hN 1 rfl) rfl rfl ?_
  refine w_iconst (q := 3) hc dX2_countOrbits_2 ci_0 rfl ?_
  refine w_istore_n (q := 4) (i := 2) (lv' := [(2, .int 0), (1, .int 0), (0, .ref 6)]) hc dX2_countOrbits_3 rfl (hN 2 rfl) rfl rfl ?_
  refine w_iconst (q := 5) hc dX2_countOrbits_4 ci_0 rfl ?_
  refine w_istore_n (q := 6) (i := 3) (lv' := [(3, .int 0), (2, .int 0), (1, .int 0), (0, .ref 6)]) hc dX2_countOrbits_5 rfl (hN 3 rfl) rfl rfl ?_
  refine w_sub [3, 2, 1, 0] rfl ?_
  exact wl_X2_countOrbits_6 I L hc hq hK hR hn FU 0 0 0
set_option maxRecDepth 100000 in
set_option maxHeartbeats 4000000 in
theorem m_X2_measured {l : Launch} {rm : Nat} {I : MI} {L : ML} : MFa l yX2_measured cX2_measured 2 (some (.object "MoveGroups$Roster")) 4 107 [.ref 6] rm I L anRA meB roA (f_X2_measured rm I L) := by
  refine mfa_of (plainFor_of_name (by decide)) (Nat.le_of_ble_eq_true rfl) ?_
  intro G ad0 hc hX hRm hn
  have hK := hX.2.2.2.1
  have hR := hX.2.2.2.2.1
  have hN : ∀ i, Nat.blt i 2 = true → i < gnL G := fun i h => hn ▸ Nat.blt_eq.mp h
  unfold f_X2_measured
  show WW G 0 [(0, .ref 6)] [] I L _
  refine w_aload_n (q := 1) (i := 0) (j := 0) hc dX2_measured_0 rfl rfl rfl ?_
  refine w_callA_r (q := 4) (st := []) (args := []) (p := 6) hc hX hRm hn m_X2_all dX2_measured_1 ml_X2_119 cf_X2_all iv_X2_all (k_6 hK) (C := RX2) (T := TX2) (N := 13) rfl rfl (Nat.lt_of_succ_le (Nat.le_of_ble_eq_true rfl)) rfl rfl (Nat.le_of_ble_eq_true rfl) ⟨Nat.le_of_ble_eq_true rfl, Nat.le_of_ble_eq_true rfl⟩ rfl rfl rfl (fun q_1 G hc hX hRm hn => ?_)
  have hK := hX.2.2.2.1
  have hR := hX.2.2.2.2.1
  have hN : ∀ i, Nat.blt i 2 = true → i < gnL G := fun i h => hn ▸ Nat.blt_eq.mp h
  refine w_chk (fun hrm_2 => ?_)
  have hrm : q_1.2 ≠ 0 := of_decide_eq_true hrm_2
  refine w_astore_n (q := 5) (i := 1) (lv' := [(1, .ref 69), (0, .ref 6)]) hc dX2_measured_4 rfl (hN 1 rfl) rfl rfl ?_
  refine w_aload_n (q := 6) (i := 1) (j := 0) hc dX2_measured_5 rfl rfl rfl ?_
  refine w_aload_n (q := 7) (i := 0) (j := 1) hc dX2_measured_6 rfl rfl rfl ?_
  refine gf_X2_18 (q := 10) hc dX2_measured_7 (k_6 hK) (r_6_2 hR) rfl ?_
  refine w_aload_n (q := 11) (i := 0) (j := 1) hc dX2_measured_10 rfl rfl rfl ?_
  refine gf_X2_15 (q := 14) hc dX2_measured_11 (k_6 hK) rfl ?_
  refine w_callV_Wv (q := 17) (st := []) (args := [.ref 7, .int (q_1.1.1 6 1)]) (p := 69) hc (m_X4_measure hK hR hrm (kB hK (k_7 hK))) dX2_measured_14 ml_X2_123 cf_X4_measure iv_X4_measure (k_69 hK hrm) (C := RX4) (T := TX4) (N := 16) rfl rfl (Nat.lt_of_succ_le (Nat.le_of_ble_eq_true rfl)) rfl rfl (Nat.le_of_ble_eq_true rfl) ⟨Nat.le_of_ble_eq_true rfl, Nat.le_of_ble_eq_true rfl⟩ rfl (fun q_3 => ?_)
  refine w_aload_n (q := 18) (i := 1) (j := 0) hc dX2_measured_17 rfl rfl rfl ?_
  exact w_areturnA hc hX dX2_measured_18 rfl rfl rfl
set_option maxRecDepth 100000 in
set_option maxHeartbeats 4000000 in
theorem m_X2_sorted {l : Launch} {rm : Nat} {I : MI} {L : ML} : MFa l yX2_sorted cX2_sorted 2 (some (.object "MoveGroups$Roster")) 4 107 [.ref 6] rm I L anRA meB roA (f_X2_sorted rm I L) := by
  refine mfa_of (plainFor_of_name (by decide)) (Nat.le_of_ble_eq_true rfl) ?_
  intro G ad0 hc hX hRm hn
  have hK := hX.2.2.2.1
  have hR := hX.2.2.2.2.1
  have hN : ∀ i, Nat.blt i 2 = true → i < gnL G := fun i h => hn ▸ Nat.blt_eq.mp h
  unfold f_X2_sorted
  show WW G 0 [(0, .ref 6)] [] I L _
  refine w_aload_n (q := 1) (i := 0) (j := 0) hc dX2_sorted_0 rfl rfl rfl ?_
  refine w_callA_r (q := 4) (st := []) (args := []) (p := 6) hc hX hRm hn m_X2_all dX2_sorted_1 ml_X2_119 cf_X2_all iv_X2_all (k_6 hK) (C := RX2) (T := TX2) (N := 13) rfl rfl (Nat.lt_of_succ_le (Nat.le_of_ble_eq_true rfl)) rfl rfl (Nat.le_of_ble_eq_true rfl) ⟨Nat.le_of_ble_eq_true rfl, Nat.le_of_ble_eq_true rfl⟩ rfl rfl rfl (fun q_1 G hc hX hRm hn => ?_)
  have hK := hX.2.2.2.1
  have hR := hX.2.2.2.2.1
  have hN : ∀ i, Nat.blt i 2 = true → i < gnL G := fun i h => hn ▸ Nat.blt_eq.mp h
  refine w_chk (fun hrm_2 => ?_)
  have hrm : q_1.2 ≠ 0 := of_decide_eq_true hrm_2
  refine w_astore_n (q := 5) (i := 1) (lv' := [(1, .ref 69), (0, .ref 6)]) hc dX2_sorted_4 rfl (hN 1 rfl) rfl rfl ?_
  refine w_aload_n (q := 6) (i := 1) (j := 0) hc dX2_sorted_5 rfl rfl rfl ?_
  refine w_aload_n (q := 7) (i := 0) (j := 1) hc dX2_sorted_6 rfl rfl rfl ?_
  refine gf_X2_18 (q := 10) hc dX2_sorted_7 (k_6 hK) (r_6_2 hR) rfl ?_
  refine w_aload_n (q := 11) (i := 0) (j := 1) hc dX2_sorted_10 rfl rfl rfl ?_
  refine gf_X2_29 (q := 14) hc dX2_sorted_11 (k_6 hK) rfl ?_
  refine w_callV_Wv (q := 17) (st := []) (args := [.ref 7, .int (q_1.1.1 6 4)]) (p := 69) hc (m_X4_sort hK hR hrm (kB hK (k_7 hK))) dX2_sorted_14 ml_X2_127 cf_X4_sort iv_X4_sort (k_69 hK hrm) (C := RX4) (T := TX4) (N := 16) rfl rfl (Nat.lt_of_succ_le (Nat.le_of_ble_eq_true rfl)) rfl rfl (Nat.le_of_ble_eq_true rfl) ⟨Nat.le_of_ble_eq_true rfl, Nat.le_of_ble_eq_true rfl⟩ rfl (fun q_3 => ?_)
  refine w_aload_n (q := 18) (i := 1) (j := 0) hc dX2_sorted_17 rfl rfl rfl ?_
  exact w_areturnA hc hX dX2_sorted_18 rfl rfl rfl
set_option maxRecDepth 100000 in
set_option maxHeartbeats 4000000 in
theorem m_X2_shaped {l : Launch} {rm : Nat} {I : MI} {L : ML} : MFa l yX2_shaped cX2_shaped 2 (some (.object "MoveGroups$Roster")) 4 107 [.ref 6] rm I L anRA meB roA (f_X2_shaped rm I L) := by
  refine mfa_of (plainFor_of_name (by decide)) (Nat.le_of_ble_eq_true rfl) ?_
  intro G ad0 hc hX hRm hn
  have hK := hX.2.2.2.1
  have hR := hX.2.2.2.2.1
  have hN : ∀ i, Nat.blt i 2 = true → i < gnL G := fun i h => hn ▸ Nat.blt_eq.mp h
  unfold f_X2_shaped
  show WW G 0 [(0, .ref 6)] [] I L _
  refine w_aload_n (q := 1) (i := 0) (j := 0) hc dX2_shaped_0 rfl rfl rfl ?_
  refine w_callA_r (q := 4) (st := []) (args := []) (p := 6) hc hX hRm hn m_X2_all dX2_shaped_1 ml_X2_119 cf_X2_all iv_X2_all (k_6 hK) (C := RX2) (T := TX2) (N := 13) rfl rfl (Nat.lt_of_succ_le (Nat.le_of_ble_eq_true rfl)) rfl rfl (Nat.le_of_ble_eq_true rfl) ⟨Nat.le_of_ble_eq_true rfl, Nat.le_of_ble_eq_true rfl⟩ rfl rfl rfl (fun q_1 G hc hX hRm hn => ?_)
  have hK := hX.2.2.2.1
  have hR := hX.2.2.2.2.1
  have hN : ∀ i, Nat.blt i 2 = true → i < gnL G := fun i h => hn ▸ Nat.blt_eq.mp h
  refine w_chk (fun hrm_2 => ?_)
  have hrm : q_1.2 ≠ 0 := of_decide_eq_true hrm_2
  refine w_astore_n (q := 5) (i := 1) (lv' := [(1, .ref 69), (0, .ref 6)]) hc dX2_shaped_4 rfl (hN 1 rfl) rfl rfl ?_
  refine w_aload_n (q := 6) (i := 1) (j := 0) hc dX2_shaped_5 rfl rfl rfl ?_
  refine w_callV_Wv (q := 9) (st := []) (args := []) (p := 69) hc (m_X4_shapeAll hK hR hrm) dX2_shaped_6 ml_X2_130 cf_X4_shapeAll iv_X4_shapeAll (k_69 hK hrm) (C := RX4) (T := TX4) (N := 16) rfl rfl (Nat.lt_of_succ_le (Nat.le_of_ble_eq_true rfl)) rfl rfl (Nat.le_of_ble_eq_true rfl) ⟨Nat.le_of_ble_eq_true rfl, Nat.le_of_ble_eq_true rfl⟩ rfl (fun q_3 => ?_)
  refine w_aload_n (q := 10) (i := 1) (j := 0) hc dX2_shaped_9 rfl rfl rfl ?_
  exact w_areturnA hc hX dX2_shaped_10 rfl rfl rfl
set_option maxRecDepth 100000 in
set_option maxHeartbeats 4000000 in
theorem wl_X2_countCentral_24 {G : GT ((Int32 × Mm) × Nat)} (rm : Nat) (I : MI) (L : ML) (hc : Cx G cX2_countCentral yX2_countCentral.cls (some .int) 4 107) {ad0 : Nat → Nat} {rm0 : Nat} (hX : AXX G ad0 rm0 rm anIA meA roA) (hRm : gRm G = rmA 4 107) (hn : gnL G = 5) (hrm : rm ≠ 0) : ∀ (n : Nat) (v2_4 : Int32) (v3_5 : Int32) (v4_6 : Int32), WW G 24 [(0, .ref 6), (1, .ref 69), (2, .int v2_4), (3, .int v3_5), (4, .int v4_6)] [] I L (f_X2_countCentral_24 rm I L n v2_4 v3_5 v4_6) := by
  have hK := hX.2.2.2.1
  have hR := hX.2.2.2.2.1
  have hN : ∀ i, Nat.blt i 5 = true → i < gnL G := fun i h => hn ▸ Nat.blt_eq.mp h
  intro n
  induction n with
  | zero => intros; exact w_none _ _ _
  | succ n ih =>
    intros v2_4 v3_5 v4_6
    rw [f_X2_countCentral_24]
    refine w_iload (q := 26) (i := 4) (j := 4) hc dX2_countCentral_24 rfl rfl ?_
    refine w_sipush (q := 29) hc dX2_countCentral_26 cs_5040 rfl ?_
    refine w_icmpge (q := 32) (tgt := 61) hc dX2_countCentral_29 rfl rfl ?_ ?_
    · refine w_iload_n (q := 62) (i := 2) (j := 2) hc dX2_countCentral_61 rfl rfl rfl ?_
      exact w_ireturnA (v := v2_4) hc hX dX2_countCentral_62 rfl rfl rfl rfl
    · refine w_iload_n (q := 33) (i := 3) (j := 3) hc dX2_countCentral_32 rfl rfl rfl ?_
      refine w_iflt (q := 36) (tgt := 61) hc dX2_countCentral_33 rfl rfl ?_ ?_
      · refine w_iload_n (q := 62) (i := 2) (j := 2) hc dX2_countCentral_61 rfl rfl rfl ?_
        exact w_ireturnA (v := v2_4) hc hX dX2_countCentral_62 rfl rfl rfl rfl
      · refine w_iincB (q := 39) (i := 2) (j := 2) (lv' := fun v2_7 => [(2, .int v2_7), (0, .ref 6), (1, .ref 69), (3, .int v3_5), (4, .int v4_6)]) hc dX2_countCentral_36 rfl ci_1 (hN 2 rfl) (fun _ => rfl) rfl (fun v2_7 => ?_)
        refine w_aload_n (q := 40) (i := 1) (j := 2) hc dX2_countCentral_39 rfl rfl rfl ?_
        refine w_iload_n (q := 41) (i := 3) (j := 3) hc dX2_countCentral_40 rfl rfl rfl ?_
        refine w_iconst (q := 42) hc dX2_countCentral_41 ci_1 rfl ?_
        refine w_iadd (q := 43) hc dX2_countCentral_42  rfl ?_
        refine w_aload_n (q := 44) (i := 0) (j := 1) hc dX2_countCentral_43 rfl rfl rfl ?_
        refine gf_X2_18 (q := 47) hc dX2_countCentral_44 (k_6 hK) (r_6_2 hR) rfl ?_
        refine w_aload_n (q := 48) (i := 0) (j := 1) hc dX2_countCentral_47 rfl rfl rfl ?_
        refine gf_X2_29 (q := 51) hc dX2_countCentral_48 (k_6 hK) rfl ?_
        refine w_callV_Ri (q := 54) (st := []) (args := [.int (v3_5 + 1), .ref 7, .int (I 6 4)]) (p := 69) hc (m_X4_nextCentral hK hR hrm (kB hK (k_7 hK))) dX2_countCentral_51 ml_X2_133 cf_X4_nextCentral iv_X4_nextCentral (k_69 hK hrm) (C := RX4) (T := TX4) (N := 16) rfl rfl (Nat.lt_of_succ_le (Nat.le_of_ble_eq_true rfl)) rfl rfl (Nat.le_of_ble_eq_true rfl) ⟨Nat.le_of_ble_eq_true rfl, Nat.le_of_ble_eq_true rfl⟩ rfl (fun q_8 => ?_)
        refine w_istore_n (q := 55) (i := 3) (lv' := [(3, .int q_8), (2, .int v2_7), (0, .ref 6), (1, .ref 69), (4, .int v4_6)]) hc dX2_countCentral_54 rfl (hN 3 rfl) rfl rfl ?_
        refine w_iincB (q := 58) (i := 4) (j := 4) (lv' := fun v4_9 => [(4, .int v4_9), (3, .int q_8), (2, .int v2_7), (0, .ref 6), (1, .ref 69)]) hc dX2_countCentral_55 rfl ci_1 (hN 4 rfl) (fun _ => rfl) rfl (fun v4_9 => ?_)
        refine w_goto (tgt := 24) hc dX2_countCentral_58 rfl ?_
        refine w_sub [3, 4, 2, 1, 0] rfl ?_
        exact ih v2_7 q_8 v4_9
set_option maxRecDepth 100000 in
set_option maxHeartbeats 4000000 in
theorem m_X2_countCentral {l : Launch} {rm : Nat} {I : MI} {L : ML} : MFa l yX2_countCentral cX2_countCentral 5 (some .int) 4 107 [.ref 6] rm I L anIA meA roA (f_X2_countCentral rm I L) := by
  refine mfa_of (plainFor_of_name (by decide)) (Nat.le_of_ble_eq_true rfl) ?_
  intro G ad0 hc hX hRm hn
  have hK := hX.2.2.2.1
  have hR := hX.2.2.2.2.1
  have hN : ∀ i, Nat.blt i 5 = true → i < gnL G := fun i h => hn ▸ Nat.blt_eq.mp h
  unfold f_X2_countCentral
  show WW G 0 [(0, .ref 6)] [] I L _
  refine w_aload_n (q := 1) (i := 0) (j := 0) hc dX2_countCentral_0 rfl rfl rfl ?_
  refine w_callA_r (q := 4) (st := []) (args := []) (p := 6) hc hX hRm hn m_X2_all dX2_countCentral_1 ml_X2_119 cf_X2_all iv_X2_all (k_6 hK) (C := RX2) (T := TX2) (N := 13) rfl rfl (Nat.lt_of_succ_le (Nat.le_of_ble_eq_true rfl)) rfl rfl (Nat.le_of_ble_eq_true rfl) ⟨Nat.le_of_ble_eq_true rfl, Nat.le_of_ble_eq_true rfl⟩ rfl rfl rfl (fun q_1 G hc hX hRm hn => ?_)
  have hK := hX.2.2.2.1
  have hR := hX.2.2.2.2.1
  have hN : ∀ i, Nat.blt i 5 = true → i < gnL G := fun i h => hn ▸ Nat.blt_eq.mp h
  refine w_chk (fun hrm_2 => ?_)
  have hrm : q_1.2 ≠ 0 := of_decide_eq_true hrm_2
  refine w_astore_n (q := 5) (i := 1) (lv' := [(1, .ref 69), (0, .ref 6)]) hc dX2_countCentral_4 rfl (hN 1 rfl) rfl rfl ?_
  refine w_iconst (q := 6) hc dX2_countCentral_5 ci_0 rfl ?_
  refine w_istore_n (q := 7) (i := 2) (lv' := [(2, .int 0), (1, .ref 69), (0, .ref 6)]) hc dX2_countCentral_6 rfl (hN 2 rfl) rfl rfl ?_
  refine w_aload_n (q := 8) (i := 1) (j := 1) hc dX2_countCentral_7 rfl rfl rfl ?_
  refine w_iconst (q := 9) hc dX2_countCentral_8 ci_0 rfl ?_
  refine w_aload_n (q := 10) (i := 0) (j := 2) hc dX2_countCentral_9 rfl rfl rfl ?_
  refine gf_X2_18 (q := 13) hc dX2_countCentral_10 (k_6 hK) (r_6_2 hR) rfl ?_
  refine w_aload_n (q := 14) (i := 0) (j := 2) hc dX2_countCentral_13 rfl rfl rfl ?_
  refine gf_X2_29 (q := 17) hc dX2_countCentral_14 (k_6 hK) rfl ?_
  refine w_callV_Ri (q := 20) (st := []) (args := [.int 0, .ref 7, .int (q_1.1.1 6 4)]) (p := 69) hc (m_X4_nextCentral hK hR hrm (kB hK (k_7 hK))) dX2_countCentral_17 ml_X2_133 cf_X4_nextCentral iv_X4_nextCentral (k_69 hK hrm) (C := RX4) (T := TX4) (N := 16) rfl rfl (Nat.lt_of_succ_le (Nat.le_of_ble_eq_true rfl)) rfl rfl (Nat.le_of_ble_eq_true rfl) ⟨Nat.le_of_ble_eq_true rfl, Nat.le_of_ble_eq_true rfl⟩ rfl (fun q_3 => ?_)
  refine w_istore_n (q := 21) (i := 3) (lv' := [(3, .int q_3), (2, .int 0), (1, .ref 69), (0, .ref 6)]) hc dX2_countCentral_20 rfl (hN 3 rfl) rfl rfl ?_
  refine w_iconst (q := 22) hc dX2_countCentral_21 ci_0 rfl ?_
  refine w_istore (q := 24) (i := 4) (lv' := [(4, .int 0), (3, .int q_3), (2, .int 0), (1, .ref 69), (0, .ref 6)]) hc dX2_countCentral_22 (hN 4 rfl) rfl rfl ?_
  refine w_sub [4, 3, 2, 1, 0] rfl ?_
  exact wl_X2_countCentral_24 q_1.2 q_1.1.1 q_1.1.2 hc hX hRm hn hrm FU 0 q_3 0
set_option maxRecDepth 100000 in
set_option maxHeartbeats 4000000 in
theorem wl_X2_centralPlace_22 {G : GT ((Int32 × Mm) × Nat)} (rm : Nat) (v1_4 : Int32) (I : MI) (L : ML) (hc : Cx G cX2_centralPlace yX2_centralPlace.cls (some .int) 4 107) {ad0 : Nat → Nat} {rm0 : Nat} (hX : AXX G ad0 rm0 rm anIA meA roA) (hRm : gRm G = rmA 4 107) (hn : gnL G = 5) (hrm : rm ≠ 0) : ∀ (n : Nat) (v3_5 : Int32) (v4_6 : Int32), WW G 22 [(0, .ref 6), (1, .int v1_4), (2, .ref 69), (3, .int v3_5), (4, .int v4_6)] [] I L (f_X2_centralPlace_22 rm v1_4 I L n v3_5 v4_6) := by
  have hK := hX.2.2.2.1
  have hR := hX.2.2.2.2.1
  have hN : ∀ i, Nat.blt i 5 = true → i < gnL G := fun i h => hn ▸ Nat.blt_eq.mp h
  intro n
  induction n with
  | zero => intros; exact w_none _ _ _
  | succ n ih =>
    intros v3_5 v4_6
    rw [f_X2_centralPlace_22]
    refine w_iload (q := 24) (i := 4) (j := 4) hc dX2_centralPlace_22 rfl rfl ?_
    refine w_iload_n (q := 25) (i := 1) (j := 1) hc dX2_centralPlace_24 rfl rfl rfl ?_
    refine w_icmpge (q := 28) (tgt := 54) hc dX2_centralPlace_25 rfl rfl ?_ ?_
    · refine w_iload_n (q := 55) (i := 3) (j := 3) hc dX2_centralPlace_54 rfl rfl rfl ?_
      exact w_ireturnA (v := v3_5) hc hX dX2_centralPlace_55 rfl rfl rfl rfl
    · refine w_iload_n (q := 29) (i := 3) (j := 3) hc dX2_centralPlace_28 rfl rfl rfl ?_
      refine w_iflt (q := 32) (tgt := 54) hc dX2_centralPlace_29 rfl rfl ?_ ?_
      · refine w_iload_n (q := 55) (i := 3) (j := 3) hc dX2_centralPlace_54 rfl rfl rfl ?_
        exact w_ireturnA (v := v3_5) hc hX dX2_centralPlace_55 rfl rfl rfl rfl
      · refine w_aload_n (q := 33) (i := 2) (j := 2) hc dX2_centralPlace_32 rfl rfl rfl ?_
        refine w_iload_n (q := 34) (i := 3) (j := 3) hc dX2_centralPlace_33 rfl rfl rfl ?_
        refine w_iconst (q := 35) hc dX2_centralPlace_34 ci_1 rfl ?_
        refine w_iadd (q := 36) hc dX2_centralPlace_35  rfl ?_
        refine w_aload_n (q := 37) (i := 0) (j := 0) hc dX2_centralPlace_36 rfl rfl rfl ?_
        refine gf_X2_18 (q := 40) hc dX2_centralPlace_37 (k_6 hK) (r_6_2 hR) rfl ?_
        refine w_aload_n (q := 41) (i := 0) (j := 0) hc dX2_centralPlace_40 rfl rfl rfl ?_
        refine gf_X2_29 (q := 44) hc dX2_centralPlace_41 (k_6 hK) rfl ?_
        refine w_callV_Ri (q := 47) (st := []) (args := [.int (v3_5 + 1), .ref 7, .int (I 6 4)]) (p := 69) hc (m_X4_nextCentral hK hR hrm (kB hK (k_7 hK))) dX2_centralPlace_44 ml_X2_133 cf_X4_nextCentral iv_X4_nextCentral (k_69 hK hrm) (C := RX4) (T := TX4) (N := 16) rfl rfl (Nat.lt_of_succ_le (Nat.le_of_ble_eq_true rfl)) rfl rfl (Nat.le_of_ble_eq_true rfl) ⟨Nat.le_of_ble_eq_true rfl, Nat.le_of_ble_eq_true rfl⟩ rfl (fun q_7 => ?_)
        refine w_istore_n (q := 48) (i := 3) (lv' := [(3, .int q_7), (0, .ref 6), (1, .int v1_4), (2, .ref 69), (4, .int v4_6)]) hc dX2_centralPlace_47 rfl (hN 3 rfl) rfl rfl ?_
        refine w_iincB (q := 51) (i := 4) (j := 4) (lv' := fun v4_8 => [(4, .int v4_8), (3, .int q_7), (0, .ref 6), (1, .int v1_4), (2, .ref 69)]) hc dX2_centralPlace_48 rfl ci_1 (hN 4 rfl) (fun _ => rfl) rfl (fun v4_8 => ?_)
        refine w_goto (tgt := 22) hc dX2_centralPlace_51 rfl ?_
        refine w_sub [2, 3, 4, 1, 0] rfl ?_
        exact ih q_7 v4_8
set_option maxRecDepth 100000 in
set_option maxHeartbeats 4000000 in
theorem m_X2_centralPlace {l : Launch} {rm : Nat} {a1 : Int32} {I : MI} {L : ML} : MFa l yX2_centralPlace cX2_centralPlace 5 (some .int) 4 107 [.ref 6, .int a1] rm I L anIA meA roA (f_X2_centralPlace rm a1 I L) := by
  refine mfa_of (plainFor_of_name (by decide)) (Nat.le_of_ble_eq_true rfl) ?_
  intro G ad0 hc hX hRm hn
  have hK := hX.2.2.2.1
  have hR := hX.2.2.2.2.1
  have hN : ∀ i, Nat.blt i 5 = true → i < gnL G := fun i h => hn ▸ Nat.blt_eq.mp h
  unfold f_X2_centralPlace
  show WW G 0 [(0, .ref 6), (1, .int a1)] [] I L _
  refine w_aload_n (q := 1) (i := 0) (j := 0) hc dX2_centralPlace_0 rfl rfl rfl ?_
  refine w_callA_r (q := 4) (st := []) (args := []) (p := 6) hc hX hRm hn m_X2_all dX2_centralPlace_1 ml_X2_119 cf_X2_all iv_X2_all (k_6 hK) (C := RX2) (T := TX2) (N := 13) rfl rfl (Nat.lt_of_succ_le (Nat.le_of_ble_eq_true rfl)) rfl rfl (Nat.le_of_ble_eq_true rfl) ⟨Nat.le_of_ble_eq_true rfl, Nat.le_of_ble_eq_true rfl⟩ rfl rfl rfl (fun q_1 G hc hX hRm hn => ?_)
  have hK := hX.2.2.2.1
  have hR := hX.2.2.2.2.1
  have hN : ∀ i, Nat.blt i 5 = true → i < gnL G := fun i h => hn ▸ Nat.blt_eq.mp h
  refine w_chk (fun hrm_2 => ?_)
  have hrm : q_1.2 ≠ 0 := of_decide_eq_true hrm_2
  refine w_astore_n (q := 5) (i := 2) (lv' := [(2, .ref 69), (0, .ref 6), (1, .int a1)]) hc dX2_centralPlace_4 rfl (hN 2 rfl) rfl rfl ?_
  refine w_aload_n (q := 6) (i := 2) (j := 0) hc dX2_centralPlace_5 rfl rfl rfl ?_
  refine w_iconst (q := 7) hc dX2_centralPlace_6 ci_0 rfl ?_
  refine w_aload_n (q := 8) (i := 0) (j := 1) hc dX2_centralPlace_7 rfl rfl rfl ?_
  refine gf_X2_18 (q := 11) hc dX2_centralPlace_8 (k_6 hK) (r_6_2 hR) rfl ?_
  refine w_aload_n (q := 12) (i := 0) (j := 1) hc dX2_centralPlace_11 rfl rfl rfl ?_
  refine gf_X2_29 (q := 15) hc dX2_centralPlace_12 (k_6 hK) rfl ?_
  refine w_callV_Ri (q := 18) (st := []) (args := [.int 0, .ref 7, .int (q_1.1.1 6 4)]) (p := 69) hc (m_X4_nextCentral hK hR hrm (kB hK (k_7 hK))) dX2_centralPlace_15 ml_X2_133 cf_X4_nextCentral iv_X4_nextCentral (k_69 hK hrm) (C := RX4) (T := TX4) (N := 16) rfl rfl (Nat.lt_of_succ_le (Nat.le_of_ble_eq_true rfl)) rfl rfl (Nat.le_of_ble_eq_true rfl) ⟨Nat.le_of_ble_eq_true rfl, Nat.le_of_ble_eq_true rfl⟩ rfl (fun q_3 => ?_)
  refine w_istore_n (q := 19) (i := 3) (lv' := [(3, .int q_3), (2, .ref 69), (0, .ref 6), (1, .int a1)]) hc dX2_centralPlace_18 rfl (hN 3 rfl) rfl rfl ?_
  refine w_iconst (q := 20) hc dX2_centralPlace_19 ci_0 rfl ?_
  refine w_istore (q := 22) (i := 4) (lv' := [(4, .int 0), (3, .int q_3), (2, .ref 69), (0, .ref 6), (1, .int a1)]) hc dX2_centralPlace_20 (hN 4 rfl) rfl rfl ?_
  refine w_sub [3, 4, 2, 1, 0] rfl ?_
  exact wl_X2_centralPlace_22 q_1.2 a1 q_1.1.1 q_1.1.2 hc hX hRm hn hrm FU q_3 0
set_option maxRecDepth 100000 in
set_option maxHeartbeats 4000000 in
theorem m_X2_descentByF {l : Launch} {K : KT} {R : MR} {rm : Nat} {I : MI} {L : ML} (hK0 : K = lK rm) (hR0 : R = lR rm) : MFg l yX2_descentBy cX2_descentBy 3 (some (.object "MoveGroups$Descent")) 6 165 [.ref 6, .int 0] K R I L (anR 30) meV (f_X2_descentByF I L) := by
  refine mf_of (plainFor_of_name (by decide)) (Nat.le_of_ble_eq_true rfl) ?_
  intro G hc _ hK1 hR1 hn hq
  have hK := hK1.trans hK0
  have hR := hR1.trans hR0
  have hN : ∀ i, Nat.blt i 3 = true → i < gnL G := fun i h => hn ▸ Nat.blt_eq.mp h
  unfold f_X2_descentByF
  show WW G 0 [(0, .ref 6), (1, .int 0)] [] I L _
  refine w_iload_n (q := 1) (i := 1) (j := 1) hc dX2_descentBy_0 rfl rfl rfl ?_
  refine w_ifeqT (tgt := 11) hc dX2_descentBy_1 rfl rfl ?_
  refine w_aload_n (q := 12) (i := 0) (j := 0) hc dX2_descentBy_11 rfl rfl rfl ?_
  refine gf_X2_45 (q := 15) hc dX2_descentBy_12 (k_6 hK) (r_6_8 hR) rfl ?_
  refine w_astore_n (q := 16) (i := 2) (lv' := [(2, .ref 30), (0, .ref 6), (1, .int 0)]) hc dX2_descentBy_15 rfl (hN 2 rfl) rfl rfl ?_
  refine w_aload_n (q := 17) (i := 2) (j := 0) hc dX2_descentBy_16 rfl rfl rfl ?_
  refine w_aload_n (q := 18) (i := 0) (j := 1) hc dX2_descentBy_17 rfl rfl rfl ?_
  refine gf_X2_25 (q := 21) hc dX2_descentBy_18 (k_6 hK) (r_6_3 hR) rfl ?_
  refine w_aload_n (q := 22) (i := 0) (j := 1) hc dX2_descentBy_21 rfl rfl rfl ?_
  refine gf_X2_32 (q := 25) hc dX2_descentBy_22 (k_6 hK) (r_6_5 hR) rfl ?_
  refine w_iload_n (q := 26) (i := 1) (j := 2) hc dX2_descentBy_25 rfl rfl rfl ?_
  refine w_callV_Wv (q := 29) (st := []) (args := [.ref 8, .ref 15, .int 0]) (p := 30) hc (m_X1_know hK hR (de_30) (ch_8) (ch_15)) dX2_descentBy_26 ml_X2_137 cf_X1_know iv_X1_know (k_30 hK) (C := RX1) (T := TX1) (N := 5) rfl rfl (Nat.lt_of_succ_le (Nat.le_of_ble_eq_true rfl)) rfl rfl (Nat.le_of_ble_eq_true rfl) ⟨Nat.le_of_ble_eq_true rfl, Nat.le_of_ble_eq_true rfl⟩ rfl (fun q_1 => ?_)
  refine w_aload_n (q := 30) (i := 2) (j := 0) hc dX2_descentBy_29 rfl rfl rfl ?_
  exact w_areturn hc hq dX2_descentBy_30 rfl rfl
set_option maxRecDepth 100000 in
set_option maxHeartbeats 4000000 in
theorem m_X2_descentByT {l : Launch} {K : KT} {R : MR} {rm : Nat} {I : MI} {L : ML} (hK0 : K = lK rm) (hR0 : R = lR rm) : MFg l yX2_descentBy cX2_descentBy 3 (some (.object "MoveGroups$Descent")) 6 165 [.ref 6, .int 1] K R I L (anR 33) meV (f_X2_descentByT I L) := by
  refine mf_of (plainFor_of_name (by decide)) (Nat.le_of_ble_eq_true rfl) ?_
  intro G hc _ hK1 hR1 hn hq
  have hK := hK1.trans hK0
  have hR := hR1.trans hR0
  have hN : ∀ i, Nat.blt i 3 = true → i < gnL G := fun i h => hn ▸ Nat.blt_eq.mp h
  unfold f_X2_descentByT
  show WW G 0 [(0, .ref 6), (1, .int 1)] [] I L _
  refine w_iload_n (q := 1) (i := 1) (j := 1) hc dX2_descentBy_0 rfl rfl rfl ?_
  refine w_ifeqF (q := 4) (tgt := 11) hc dX2_descentBy_1 (by decide) rfl rfl ?_
  refine w_aload_n (q := 5) (i := 0) (j := 0) hc dX2_descentBy_4 rfl rfl rfl ?_
  refine gf_X2_49 (q := 8) hc dX2_descentBy_5 (k_6 hK) (r_6_9 hR) rfl ?_
  refine w_goto (tgt := 15) hc dX2_descentBy_8 rfl ?_
  refine w_astore_n (q := 16) (i := 2) (lv' := [(2, .ref 33), (0, .ref 6), (1, .int 1)]) hc dX2_descentBy_15 rfl (hN 2 rfl) rfl rfl ?_
  refine w_aload_n (q := 17) (i := 2) (j := 0) hc dX2_descentBy_16 rfl rfl rfl ?_
  refine w_aload_n (q := 18) (i := 0) (j := 1) hc dX2_descentBy_17 rfl rfl rfl ?_
  refine gf_X2_25 (q := 21) hc dX2_descentBy_18 (k_6 hK) (r_6_3 hR) rfl ?_
  refine w_aload_n (q := 22) (i := 0) (j := 1) hc dX2_descentBy_21 rfl rfl rfl ?_
  refine gf_X2_32 (q := 25) hc dX2_descentBy_22 (k_6 hK) (r_6_5 hR) rfl ?_
  refine w_iload_n (q := 26) (i := 1) (j := 2) hc dX2_descentBy_25 rfl rfl rfl ?_
  refine w_callV_Wv (q := 29) (st := []) (args := [.ref 8, .ref 15, .int 1]) (p := 33) hc (m_X1_know hK hR (de_33) (ch_8) (ch_15)) dX2_descentBy_26 ml_X2_137 cf_X1_know iv_X1_know (k_33 hK) (C := RX1) (T := TX1) (N := 5) rfl rfl (Nat.lt_of_succ_le (Nat.le_of_ble_eq_true rfl)) rfl rfl (Nat.le_of_ble_eq_true rfl) ⟨Nat.le_of_ble_eq_true rfl, Nat.le_of_ble_eq_true rfl⟩ rfl (fun q_1 => ?_)
  refine w_aload_n (q := 30) (i := 2) (j := 0) hc dX2_descentBy_29 rfl rfl rfl ?_
  exact w_areturn hc hq dX2_descentBy_30 rfl rfl
set_option maxRecDepth 100000 in
set_option maxHeartbeats 4000000 in
theorem wl_X2_movesCommute_12 {G : GT Bool} {rm : Nat} (v1_2 : Int32) (I : MI) (L : ML) (hc : Cx G cX2_movesCommute yX2_movesCommute.cls (some .boolean) 2 47) (hq : RetQ G anZ (meR I L)) (hK : gK G = lK rm) (hR : gR G = lR rm) (hn : gnL G = 3) (k0 : Option Bool) (hk0 : WW G 47 [(0, .ref 6), (1, .int v1_2)] [] I L (k0)) : ∀ (n : Nat) (v2_3 : Int32), WW G 12 [(0, .ref 6), (1, .int v1_2), (2, .int v2_3)] [] I L (f_X2_movesCommute_12 v1_2 I L k0 n v2_3) := by
  have hN : ∀ i, Nat.blt i 3 = true → i < gnL G := fun i h => hn ▸ Nat.blt_eq.mp h
  intro n
  induction n with
  | zero => intros; exact w_none _ _ _
  | succ n ih =>
    intros v2_3
    rw [f_X2_movesCommute_12]
    refine w_iload_n (q := 13) (i := 2) (j := 2) hc dX2_movesCommute_12 rfl rfl rfl ?_
    refine w_iload_n (q := 14) (i := 1) (j := 1) hc dX2_movesCommute_13 rfl rfl rfl ?_
    refine w_icmpge (q := 17) (tgt := 47) hc dX2_movesCommute_14 rfl rfl ?_ ?_
    · refine w_sub [0, 1] rfl ?_
      exact hk0
    · refine w_aload_n (q := 18) (i := 0) (j := 0) hc dX2_movesCommute_17 rfl rfl rfl ?_
      refine gf_X2_18 (q := 21) hc dX2_movesCommute_18 (k_6 hK) (r_6_2 hR) rfl ?_
      refine w_iload_n (q := 22) (i := 1) (j := 1) hc dX2_movesCommute_21 rfl rfl rfl ?_
      refine w_lald (q := 23) hc dX2_movesCommute_22 (k_7 hK) rfl ?_
      refine w_aload_n (q := 24) (i := 0) (j := 0) hc dX2_movesCommute_23 rfl rfl rfl ?_
      refine gf_X2_18 (q := 27) hc dX2_movesCommute_24 (k_6 hK) (r_6_2 hR) rfl ?_
      refine w_iload_n (q := 28) (i := 2) (j := 2) hc dX2_movesCommute_27 rfl rfl rfl ?_
      refine w_lald (q := 29) hc dX2_movesCommute_28 (k_7 hK) rfl ?_
      refine w_aload_n (q := 30) (i := 0) (j := 0) hc dX2_movesCommute_29 rfl rfl rfl ?_
      refine gf_X2_9 (q := 33) hc dX2_movesCommute_30 (k_6 hK) rfl ?_
      refine w_callS_Rz (q := 36) (st := []) (args := [.long (L 7 (ix v1_2)), .long (L 7 (ix v2_3)), .int (I 6 0)]) hc (m_X6_commute hK hR) dX2_movesCommute_33 ml_X2_141 cf_X6_commute st_X6_commute rfl rfl (Nat.le_of_ble_eq_true rfl) ⟨Nat.le_of_ble_eq_true rfl, Nat.le_of_ble_eq_true rfl⟩ rfl (fun q_4 => ?_)
      refine w_ifne (q := 39) (tgt := 41) hc dX2_movesCommute_36 rfl rfl ?_ ?_
      · refine w_iconst (q := 40) hc dX2_movesCommute_39 ci_0 rfl ?_
        exact w_ireturn (v := b2i false) hc hq dX2_movesCommute_40 (nar_b2i false) rfl rfl
      · refine w_iincB (q := 44) (i := 2) (j := 2) (lv' := fun v2_5 => [(2, .int v2_5), (0, .ref 6), (1, .int v1_2)]) hc dX2_movesCommute_41 rfl ci_1 (hN 2 rfl) (fun _ => rfl) rfl (fun v2_5 => ?_)
        refine w_goto (tgt := 12) hc dX2_movesCommute_44 rfl ?_
        refine w_sub [1, 2, 0] rfl ?_
        exact ih v2_5
set_option maxRecDepth 100000 in
set_option maxHeartbeats 4000000 in
theorem wl_X2_movesCommute_2 {G : GT Bool} {rm : Nat} (I : MI) (L : ML) (hc : Cx G cX2_movesCommute yX2_movesCommute.cls (some .boolean) 2 47) (hq : RetQ G anZ (meR I L)) (hK : gK G = lK rm) (hR : gR G = lR rm) (hn : gnL G = 3) : ∀ (n : Nat) (v1_1 : Int32), WW G 2 [(0, .ref 6), (1, .int v1_1)] [] I L (f_X2_movesCommute_2 I L n v1_1) := by
  have hN : ∀ i, Nat.blt i 3 = true → i < gnL G := fun i h => hn ▸ Nat.blt_eq.mp h
  intro n
  induction n with
  | zero => intros; exact w_none _ _ _
  | succ n ih =>
    intros v1_1
    rw [f_X2_movesCommute_2]
    refine w_iload_n (q := 3) (i := 1) (j := 1) hc dX2_movesCommute_2 rfl rfl rfl ?_
    refine w_aload_n (q := 4) (i := 0) (j := 0) hc dX2_movesCommute_3 rfl rfl rfl ?_
    refine gf_X2_15 (q := 7) hc dX2_movesCommute_4 (k_6 hK) rfl ?_
    refine w_icmpge (q := 10) (tgt := 53) hc dX2_movesCommute_7 rfl rfl ?_ ?_
    · refine w_iconst (q := 54) hc dX2_movesCommute_53 ci_1 rfl ?_
      exact w_ireturn (v := b2i true) hc hq dX2_movesCommute_54 (nar_b2i true) rfl rfl
    · refine w_iconst (q := 11) hc dX2_movesCommute_10 ci_0 rfl ?_
      refine w_istore_n (q := 12) (i := 2) (lv' := [(2, .int 0), (0, .ref 6), (1, .int v1_1)]) hc dX2_movesCommute_11 rfl (hN 2 rfl) rfl rfl ?_
      refine w_sub [1, 2, 0] rfl ?_
      refine wl_X2_movesCommute_12 v1_1 I L hc hq hK hR hn _ ?_ FU 0
      refine w_iincB (q := 50) (i := 1) (j := 1) (lv' := fun v1_6 => [(1, .int v1_6), (0, .ref 6)]) hc dX2_movesCommute_47 rfl ci_1 (hN 1 rfl) (fun _ => rfl) rfl (fun v1_6 => ?_)
      refine w_goto (tgt := 2) hc dX2_movesCommute_50 rfl ?_
      refine w_sub [1, 0] rfl ?_
      exact ih v1_6
set_option maxRecDepth 100000 in
set_option maxHeartbeats 4000000 in
theorem m_X2_movesCommute {l : Launch} {K : KT} {R : MR} {rm : Nat} {I : MI} {L : ML} (hK0 : K = lK rm) (hR0 : R = lR rm) : MFg l yX2_movesCommute cX2_movesCommute 3 (some .boolean) 2 47 [.ref 6] K R I L anZ (meR I L) (f_X2_movesCommute I L) := by
  refine mf_of (plainFor_of_name (by decide)) (Nat.le_of_ble_eq_true rfl) ?_
  intro G hc _ hK1 hR1 hn hq
  have hK := hK1.trans hK0
  have hR := hR1.trans hR0
  have hN : ∀ i, Nat.blt i 3 = true → i < gnL G := fun i h => hn ▸ Nat.blt_eq.mp h
  unfold f_X2_movesCommute
  show WW G 0 [(0, .ref 6)] [] I L _
  refine w_iconst (q := 1) hc dX2_movesCommute_0 ci_0 rfl ?_
  refine w_istore_n (q := 2) (i := 1) (lv' := [(1, .int 0), (0, .ref 6)]) hc dX2_movesCommute_1 rfl (hN 1 rfl) rfl rfl ?_
  refine w_sub [1, 0] rfl ?_
  exact wl_X2_movesCommute_2 I L hc hq hK hR hn FU 0
set_option maxRecDepth 100000 in
set_option maxHeartbeats 4000000 in
theorem wl_X2_movesAreEven_2 {G : GT Bool} {rm : Nat} (I : MI) (L : ML) (hc : Cx G cX2_movesAreEven yX2_movesAreEven.cls (some .boolean) 3 73) (hq : RetQ G anZ (meR I L)) (hK : gK G = lK rm) (hR : gR G = lR rm) (hn : gnL G = 2) : ∀ (n : Nat) (v1_1 : Int32), WW G 2 [(0, .ref 6), (1, .int v1_1)] [] I L (f_X2_movesAreEven_2 I L n v1_1) := by
  have hN : ∀ i, Nat.blt i 2 = true → i < gnL G := fun i h => hn ▸ Nat.blt_eq.mp h
  intro n
  induction n with
  | zero => intros; exact w_none _ _ _
  | succ n ih =>
    intros v1_1
    rw [f_X2_movesAreEven_2]
    refine w_iload_n (q := 3) (i := 1) (j := 1) hc dX2_movesAreEven_2 rfl rfl rfl ?_
    refine w_aload_n (q := 4) (i := 0) (j := 0) hc dX2_movesAreEven_3 rfl rfl rfl ?_
    refine gf_X2_15 (q := 7) hc dX2_movesAreEven_4 (k_6 hK) rfl ?_
    refine w_icmpge (q := 10) (tgt := 34) hc dX2_movesAreEven_7 rfl rfl ?_ ?_
    · refine w_iconst (q := 35) hc dX2_movesAreEven_34 ci_1 rfl ?_
      exact w_ireturn (v := b2i true) hc hq dX2_movesAreEven_35 (nar_b2i true) rfl rfl
    · refine w_aload_n (q := 11) (i := 0) (j := 0) hc dX2_movesAreEven_10 rfl rfl rfl ?_
      refine gf_X2_18 (q := 14) hc dX2_movesAreEven_11 (k_6 hK) (r_6_2 hR) rfl ?_
      refine w_iload_n (q := 15) (i := 1) (j := 1) hc dX2_movesAreEven_14 rfl rfl rfl ?_
      refine w_lald (q := 16) hc dX2_movesAreEven_15 (k_7 hK) rfl ?_
      refine w_aload_n (q := 17) (i := 0) (j := 0) hc dX2_movesAreEven_16 rfl rfl rfl ?_
      refine gf_X2_9 (q := 20) hc dX2_movesAreEven_17 (k_6 hK) rfl ?_
      refine w_callS_Rz (q := 23) (st := []) (args := [.long (L 7 (ix v1_1)), .int (I 6 0)]) hc (m_X6_isEven hK hR) dX2_movesAreEven_20 ml_X2_145 cf_X6_isEven st_X6_isEven rfl rfl (Nat.le_of_ble_eq_true rfl) ⟨Nat.le_of_ble_eq_true rfl, Nat.le_of_ble_eq_true rfl⟩ rfl (fun q_2 => ?_)
      refine w_ifne (q := 26) (tgt := 28) hc dX2_movesAreEven_23 rfl rfl ?_ ?_
      · refine w_iconst (q := 27) hc dX2_movesAreEven_26 ci_0 rfl ?_
        exact w_ireturn (v := b2i false) hc hq dX2_movesAreEven_27 (nar_b2i false) rfl rfl
      · refine w_iincB (q := 31) (i := 1) (j := 1) (lv' := fun v1_3 => [(1, .int v1_3), (0, .ref 6)]) hc dX2_movesAreEven_28 rfl ci_1 (hN 1 rfl) (fun _ => rfl) rfl (fun v1_3 => ?_)
        refine w_goto (tgt := 2) hc dX2_movesAreEven_31 rfl ?_
        refine w_sub [1, 0] rfl ?_
        exact ih v1_3
set_option maxRecDepth 100000 in
set_option maxHeartbeats 4000000 in
theorem m_X2_movesAreEven {l : Launch} {K : KT} {R : MR} {rm : Nat} {I : MI} {L : ML} (hK0 : K = lK rm) (hR0 : R = lR rm) : MFg l yX2_movesAreEven cX2_movesAreEven 2 (some .boolean) 3 73 [.ref 6] K R I L anZ (meR I L) (f_X2_movesAreEven I L) := by
  refine mf_of (plainFor_of_name (by decide)) (Nat.le_of_ble_eq_true rfl) ?_
  intro G hc _ hK1 hR1 hn hq
  have hK := hK1.trans hK0
  have hR := hR1.trans hR0
  have hN : ∀ i, Nat.blt i 2 = true → i < gnL G := fun i h => hn ▸ Nat.blt_eq.mp h
  unfold f_X2_movesAreEven
  show WW G 0 [(0, .ref 6)] [] I L _
  refine w_iconst (q := 1) hc dX2_movesAreEven_0 ci_0 rfl ?_
  refine w_istore_n (q := 2) (i := 1) (lv' := [(1, .int 0), (0, .ref 6)]) hc dX2_movesAreEven_1 rfl (hN 1 rfl) rfl rfl ?_
  refine w_sub [1, 0] rfl ?_
  exact wl_X2_movesAreEven_2 I L hc hq hK hR hn FU 0
set_option maxRecDepth 100000 in
set_option maxHeartbeats 4000000 in
theorem wl_X2_replaceMark_2 {G : GT Mm} {rm : Nat} (v1_1 : Int32) (v2_2 : Int32) (L : ML) (hc : Cx G cX2_replaceMark yX2_replaceMark.cls none 0 0) (hq : RetQ G anV meV) (hK : gK G = lK rm) (hR : gR G = lR rm) (hn : gnL G = 4) : ∀ (n : Nat) (v3_3 : Int32) (I_4 : MI), WW G 2 [(0, .ref 6), (1, .int v1_1), (2, .int v2_2), (3, .int v3_3)] [] I_4 L (f_X2_replaceMark_2 v1_1 v2_2 L n v3_3 I_4) := by
  have hN : ∀ i, Nat.blt i 4 = true → i < gnL G := fun i h => hn ▸ Nat.blt_eq.mp h
  intro n
  induction n with
  | zero => intros; exact w_none _ _ _
  | succ n ih =>
    intros v3_3 I_4
    rw [f_X2_replaceMark_2]
    refine w_iload_n (q := 3) (i := 3) (j := 3) hc dX2_replaceMark_2 rfl rfl rfl ?_
    refine w_aload_n (q := 4) (i := 0) (j := 0) hc dX2_replaceMark_3 rfl rfl rfl ?_
    refine gf_X2_9 (q := 7) hc dX2_replaceMark_4 (k_6 hK) rfl ?_
    refine w_icmpge (q := 10) (tgt := 33) hc dX2_replaceMark_7 rfl rfl ?_ ?_
    · exact w_return hc hq dX2_replaceMark_33 rfl rfl
    · refine w_aload_n (q := 11) (i := 0) (j := 0) hc dX2_replaceMark_10 rfl rfl rfl ?_
      refine gf_X2_60 (q := 14) hc dX2_replaceMark_11 (k_6 hK) (r_6_12 hR) rfl ?_
      refine w_iload_n (q := 15) (i := 3) (j := 3) hc dX2_replaceMark_14 rfl rfl rfl ?_
      refine w_iald (q := 16) hc dX2_replaceMark_15 (k_36 hK) rfl ?_
      refine w_iload_n (q := 17) (i := 1) (j := 1) hc dX2_replaceMark_16 rfl rfl rfl ?_
      refine w_icmpne (q := 20) (tgt := 27) hc dX2_replaceMark_17 rfl rfl ?_ ?_
      · refine w_aload_n (q := 21) (i := 0) (j := 0) hc dX2_replaceMark_20 rfl rfl rfl ?_
        refine gf_X2_60 (q := 24) hc dX2_replaceMark_21 (k_6 hK) (r_6_12 hR) rfl ?_
        refine w_iload_n (q := 25) (i := 3) (j := 3) hc dX2_replaceMark_24 rfl rfl rfl ?_
        refine w_iload_n (q := 26) (i := 2) (j := 2) hc dX2_replaceMark_25 rfl rfl rfl ?_
        refine w_iast (q := 27) hc dX2_replaceMark_26 (k_36 hK) rfl (fun I_6 => ?_)
        refine w_iincB (q := 30) (i := 3) (j := 3) (lv' := fun v3_7 => [(3, .int v3_7), (0, .ref 6), (1, .int v1_1), (2, .int v2_2)]) hc dX2_replaceMark_27 rfl ci_1 (hN 3 rfl) (fun _ => rfl) rfl (fun v3_7 => ?_)
        refine w_goto (tgt := 2) hc dX2_replaceMark_30 rfl ?_
        refine w_sub [1, 2, 3, 0] rfl ?_
        exact ih v3_7 I_6
      · refine w_iincB (q := 30) (i := 3) (j := 3) (lv' := fun v3_5 => [(3, .int v3_5), (0, .ref 6), (1, .int v1_1), (2, .int v2_2)]) hc dX2_replaceMark_27 rfl ci_1 (hN 3 rfl) (fun _ => rfl) rfl (fun v3_5 => ?_)
        refine w_goto (tgt := 2) hc dX2_replaceMark_30 rfl ?_
        refine w_sub [1, 2, 3, 0] rfl ?_
        exact ih v3_5 I_4
set_option maxRecDepth 100000 in
set_option maxHeartbeats 4000000 in
theorem m_X2_replaceMark {l : Launch} {K : KT} {R : MR} {rm : Nat} {a1 : Int32} {a2 : Int32} {I : MI} {L : ML} (hK0 : K = lK rm) (hR0 : R = lR rm) : MFg l yX2_replaceMark cX2_replaceMark 4 none 0 0 [.ref 6, .int a1, .int a2] K R I L anV meV (f_X2_replaceMark a1 a2 I L) := by
  refine mf_of (plainFor_of_name (by decide)) (Nat.le_of_ble_eq_true rfl) ?_
  intro G hc _ hK1 hR1 hn hq
  have hK := hK1.trans hK0
  have hR := hR1.trans hR0
  have hN : ∀ i, Nat.blt i 4 = true → i < gnL G := fun i h => hn ▸ Nat.blt_eq.mp h
  unfold f_X2_replaceMark
  show WW G 0 [(0, .ref 6), (1, .int a1), (2, .int a2)] [] I L _
  refine w_iconst (q := 1) hc dX2_replaceMark_0 ci_0 rfl ?_
  refine w_istore_n (q := 2) (i := 3) (lv' := [(3, .int 0), (0, .ref 6), (1, .int a1), (2, .int a2)]) hc dX2_replaceMark_1 rfl (hN 3 rfl) rfl rfl ?_
  refine w_sub [1, 2, 3, 0] rfl ?_
  exact wl_X2_replaceMark_2 a1 a2 L hc hq hK hR hn FU 0 I
set_option maxRecDepth 100000 in
set_option maxHeartbeats 4000000 in
theorem wl_X2_spreadMarks_17 {G : GT (Bool × Mm)} {rm : Nat} (v1_6 : Int64) (v4_8 : Int32) (hc : Cx G cX2_spreadMarks yX2_spreadMarks.cls (some .boolean) 1 23) (hq : RetQ G anZW meW) (hK : gK G = lK rm) (hR : gR G = lR rm) (hn : gnL G = 8) (k0 : Int32 → MI → ML → Option (Bool × Mm)) (hk0 : ∀ (v3_20 : Int32) (I_21 : MI) (L_22 : ML), WW G 90 [(0, .ref 6), (1, .long v1_6), (3, .int v3_20), (4, .int v4_8)] [] I_21 L_22 (k0 v3_20 I_21 L_22)) : ∀ (n : Nat) (v3_7 : Int32) (v5_9 : Int32) (I_10 : MI) (L_11 : ML), WW G 17 [(0, .ref 6), (1, .long v1_6), (3, .int v3_7), (4, .int v4_8), (5, .int v5_9)] [] I_10 L_11 (f_X2_spreadMarks_17 v1_6 v4_8 k0 n v3_7 v5_9 I_10 L_11) := by
  have hN : ∀ i, Nat.blt i 8 = true → i < gnL G := fun i h => hn ▸ Nat.blt_eq.mp h
  intro n
  induction n with
  | zero => intros; exact w_none _ _ _
  | succ n ih =>
    intros v3_7 v5_9 I_10 L_11
    rw [f_X2_spreadMarks_17]
    refine w_iload (q := 19) (i := 5) (j := 4) hc dX2_spreadMarks_17 rfl rfl ?_
    refine w_iload (q := 21) (i := 4) (j := 3) hc dX2_spreadMarks_19 rfl rfl ?_
    refine w_icmpge (q := 24) (tgt := 90) hc dX2_spreadMarks_21 rfl rfl ?_ ?_
    · refine w_sub [0, 1, 2, 3] rfl ?_
      exact hk0 v3_7 I_10 L_11
    · refine w_aload_n (q := 25) (i := 0) (j := 0) hc dX2_spreadMarks_24 rfl rfl rfl ?_
      refine gf_X2_60 (q := 28) hc dX2_spreadMarks_25 (k_6 hK) (r_6_12 hR) rfl ?_
      refine w_lload_n (q := 29) (i := 1) (j := 1) hc dX2_spreadMarks_28 rfl rfl rfl ?_
      refine w_iload (q := 31) (i := 4) (j := 3) hc dX2_spreadMarks_29 rfl rfl ?_
      refine w_callS_Ri (q := 34) (st := [.ref 36]) (args := [.long v1_6, .int v4_8]) hc (m_X6_image hK hR) dX2_spreadMarks_31 ml_X2_99 cf_X6_image st_X6_image rfl rfl (Nat.le_of_ble_eq_true rfl) ⟨Nat.le_of_ble_eq_true rfl, Nat.le_of_ble_eq_true rfl⟩ rfl (fun q_12 => ?_)
      refine w_iald (q := 35) hc dX2_spreadMarks_34 (k_36 hK) rfl ?_
      refine w_istoreB (q := 37) (i := 6) (lv' := fun v6_13 => [(6, .int v6_13), (0, .ref 6), (1, .long v1_6), (3, .int v3_7), (4, .int v4_8), (5, .int v5_9)]) hc dX2_spreadMarks_35 (hN 6 rfl) (fun _ => rfl) rfl (fun v6_13 => ?_)
      refine w_aload_n (q := 38) (i := 0) (j := 1) hc dX2_spreadMarks_37 rfl rfl rfl ?_
      refine gf_X2_60 (q := 41) hc dX2_spreadMarks_38 (k_6 hK) (r_6_12 hR) rfl ?_
      refine w_lload_n (q := 42) (i := 1) (j := 2) hc dX2_spreadMarks_41 rfl rfl rfl ?_
      refine w_iload (q := 44) (i := 5) (j := 5) hc dX2_spreadMarks_42 rfl rfl ?_
      refine w_callS_Ri (q := 47) (st := [.ref 36]) (args := [.long v1_6, .int v5_9]) hc (m_X6_image hK hR) dX2_spreadMarks_44 ml_X2_99 cf_X6_image st_X6_image rfl rfl (Nat.le_of_ble_eq_true rfl) ⟨Nat.le_of_ble_eq_true rfl, Nat.le_of_ble_eq_true rfl⟩ rfl (fun q_14 => ?_)
      refine w_iald (q := 48) hc dX2_spreadMarks_47 (k_36 hK) rfl ?_
      refine w_istoreB (q := 50) (i := 7) (lv' := fun v7_15 => [(7, .int v7_15), (6, .int v6_13), (0, .ref 6), (1, .long v1_6), (3, .int v3_7), (4, .int v4_8), (5, .int v5_9)]) hc dX2_spreadMarks_48 (hN 7 rfl) (fun _ => rfl) rfl (fun v7_15 => ?_)
      refine w_aload_n (q := 51) (i := 0) (j := 2) hc dX2_spreadMarks_50 rfl rfl rfl ?_
      refine gf_X2_60 (q := 54) hc dX2_spreadMarks_51 (k_6 hK) (r_6_12 hR) rfl ?_
      refine w_iload (q := 56) (i := 4) (j := 5) hc dX2_spreadMarks_54 rfl rfl ?_
      refine w_iald (q := 57) hc dX2_spreadMarks_56 (k_36 hK) rfl ?_
      refine w_aload_n (q := 58) (i := 0) (j := 2) hc dX2_spreadMarks_57 rfl rfl rfl ?_
      refine gf_X2_60 (q := 61) hc dX2_spreadMarks_58 (k_6 hK) (r_6_12 hR) rfl ?_
      refine w_iload (q := 63) (i := 5) (j := 6) hc dX2_spreadMarks_61 rfl rfl ?_
      refine w_iald (q := 64) hc dX2_spreadMarks_63 (k_36 hK) rfl ?_
      refine w_icmpne (q := 67) (tgt := 84) hc dX2_spreadMarks_64 rfl rfl ?_ ?_
      · refine w_iload (q := 69) (i := 6) (j := 1) hc dX2_spreadMarks_67 rfl rfl ?_
        refine w_iload (q := 71) (i := 7) (j := 0) hc dX2_spreadMarks_69 rfl rfl ?_
        refine w_icmpeq (q := 74) (tgt := 84) hc dX2_spreadMarks_71 rfl rfl ?_ ?_
        · refine w_iincB (q := 87) (i := 5) (j := 6) (lv' := fun v5_17 => [(5, .int v5_17), (7, .int v7_15), (6, .int v6_13), (0, .ref 6), (1, .long v1_6), (3, .int v3_7), (4, .int v4_8)]) hc dX2_spreadMarks_84 rfl ci_1 (hN 5 rfl) (fun _ => rfl) rfl (fun v5_17 => ?_)
          refine w_goto (tgt := 17) hc dX2_spreadMarks_87 rfl ?_
          refine w_sub [3, 4, 5, 6, 0] rfl ?_
          exact ih v3_7 v5_17 I_10 L_11
        · refine w_aload_n (q := 75) (i := 0) (j := 2) hc dX2_spreadMarks_74 rfl rfl rfl ?_
          refine w_iload (q := 77) (i := 6) (j := 1) hc dX2_spreadMarks_75 rfl rfl ?_
          refine w_iload (q := 79) (i := 7) (j := 0) hc dX2_spreadMarks_77 rfl rfl ?_
          refine w_callV_Wv (q := 82) (st := []) (args := [.int v6_13, .int v7_15]) (p := 6) hc (m_X2_replaceMark hK hR) dX2_spreadMarks_79 ml_X2_156 cf_X2_replaceMark iv_X2_replaceMark (k_6 hK) (C := RX2) (T := TX2) (N := 13) rfl rfl (Nat.lt_of_succ_le (Nat.le_of_ble_eq_true rfl)) rfl rfl (Nat.le_of_ble_eq_true rfl) ⟨Nat.le_of_ble_eq_true rfl, Nat.le_of_ble_eq_true rfl⟩ rfl (fun q_18 => ?_)
          refine w_iconst (q := 83) hc dX2_spreadMarks_82 ci_1 rfl ?_
          refine w_istore_n (q := 84) (i := 3) (lv' := [(3, .int 1), (7, .int v7_15), (6, .int v6_13), (0, .ref 6), (1, .long v1_6), (4, .int v4_8), (5, .int v5_9)]) hc dX2_spreadMarks_83 rfl (hN 3 rfl) rfl rfl ?_
          refine w_iincB (q := 87) (i := 5) (j := 6) (lv' := fun v5_19 => [(5, .int v5_19), (3, .int 1), (7, .int v7_15), (6, .int v6_13), (0, .ref 6), (1, .long v1_6), (4, .int v4_8)]) hc dX2_spreadMarks_84 rfl ci_1 (hN 5 rfl) (fun _ => rfl) rfl (fun v5_19 => ?_)
          refine w_goto (tgt := 17) hc dX2_spreadMarks_87 rfl ?_
          refine w_sub [4, 5, 1, 6, 0] rfl ?_
          exact ih 1 v5_19 q_18.1 q_18.2
      · refine w_iincB (q := 87) (i := 5) (j := 6) (lv' := fun v5_16 => [(5, .int v5_16), (7, .int v7_15), (6, .int v6_13), (0, .ref 6), (1, .long v1_6), (3, .int v3_7), (4, .int v4_8)]) hc dX2_spreadMarks_84 rfl ci_1 (hN 5 rfl) (fun _ => rfl) rfl (fun v5_16 => ?_)
        refine w_goto (tgt := 17) hc dX2_spreadMarks_87 rfl ?_
        refine w_sub [3, 4, 5, 6, 0] rfl ?_
        exact ih v3_7 v5_16 I_10 L_11
set_option maxRecDepth 100000 in
set_option maxHeartbeats 4000000 in
theorem wl_X2_spreadMarks_5 {G : GT (Bool × Mm)} {rm : Nat} (v1_1 : Int64) (hc : Cx G cX2_spreadMarks yX2_spreadMarks.cls (some .boolean) 1 23) (hq : RetQ G anZW meW) (hK : gK G = lK rm) (hR : gR G = lR rm) (hn : gnL G = 8) : ∀ (n : Nat) (v3_2 : Int32) (v4_3 : Int32) (I_4 : MI) (L_5 : ML), WW G 5 [(0, .ref 6), (1, .long v1_1), (3, .int v3_2), (4, .int v4_3)] [] I_4 L_5 (f_X2_spreadMarks_5 v1_1 n v3_2 v4_3 I_4 L_5) := by
  have hN : ∀ i, Nat.blt i 8 = true → i < gnL G := fun i h => hn ▸ Nat.blt_eq.mp h
  intro n
  induction n with
  | zero => intros; exact w_none _ _ _
  | succ n ih =>
    intros v3_2 v4_3 I_4 L_5
    rw [f_X2_spreadMarks_5]
    refine w_iload (q := 7) (i := 4) (j := 3) hc dX2_spreadMarks_5 rfl rfl ?_
    refine w_aload_n (q := 8) (i := 0) (j := 0) hc dX2_spreadMarks_7 rfl rfl rfl ?_
    refine gf_X2_9 (q := 11) hc dX2_spreadMarks_8 (k_6 hK) rfl ?_
    refine w_icmpge (q := 14) (tgt := 96) hc dX2_spreadMarks_11 rfl rfl ?_ ?_
    · refine w_iload_n (q := 97) (i := 3) (j := 2) hc dX2_spreadMarks_96 rfl rfl rfl ?_
      exact w_ireturnZ (v := v3_2) hc hq dX2_spreadMarks_97 (fun h => by show some (Value.int (b2i (i2z _))) = _; rw [b2i_i2z h]) rfl
    · refine w_iconst (q := 15) hc dX2_spreadMarks_14 ci_0 rfl ?_
      refine w_istore (q := 17) (i := 5) (lv' := [(5, .int 0), (0, .ref 6), (1, .long v1_1), (3, .int v3_2), (4, .int v4_3)]) hc dX2_spreadMarks_15 (hN 5 rfl) rfl rfl ?_
      refine w_sub [1, 2, 3, 4, 0] rfl ?_
      refine wl_X2_spreadMarks_17 v1_1 v4_3 hc hq hK hR hn _ ?_ FU v3_2 0 I_4 L_5
      intro v3_20 I_21 L_22
      refine w_iincB (q := 93) (i := 4) (j := 3) (lv' := fun v4_23 => [(4, .int v4_23), (0, .ref 6), (1, .long v1_1), (3, .int v3_20)]) hc dX2_spreadMarks_90 rfl ci_1 (hN 4 rfl) (fun _ => rfl) rfl (fun v4_23 => ?_)
      refine w_goto (tgt := 5) hc dX2_spreadMarks_93 rfl ?_
      refine w_sub [1, 2, 3, 0] rfl ?_
      exact ih v3_20 v4_23 I_21 L_22
set_option maxRecDepth 100000 in
set_option maxHeartbeats 4000000 in
theorem m_X2_spreadMarks {l : Launch} {K : KT} {R : MR} {rm : Nat} {a1 : Int64} {I : MI} {L : ML} (hK0 : K = lK rm) (hR0 : R = lR rm) : MFg l yX2_spreadMarks cX2_spreadMarks 8 (some .boolean) 1 23 [.ref 6, .long a1] K R I L anZW meW (f_X2_spreadMarks a1 I L) := by
  refine mf_of (plainFor_of_name (by decide)) (Nat.le_of_ble_eq_true rfl) ?_
  intro G hc _ hK1 hR1 hn hq
  have hK := hK1.trans hK0
  have hR := hR1.trans hR0
  have hN : ∀ i, Nat.blt i 8 = true → i < gnL G := fun i h => hn ▸ Nat.blt_eq.mp h
  unfold f_X2_spreadMarks
  show WW G 0 [(0, .ref 6), (1, .long a1)] [] I L _
  refine w_iconst (q := 1) hc dX2_spreadMarks_0 ci_0 rfl ?_
  refine w_istore_n (q := 2) (i := 3) (lv' := [(3, .int 0), (0, .ref 6), (1, .long a1)]) hc dX2_spreadMarks_1 rfl (hN 3 rfl) rfl rfl ?_
  refine w_iconst (q := 3) hc dX2_spreadMarks_2 ci_1 rfl ?_
  refine w_istore (q := 5) (i := 4) (lv' := [(4, .int 1), (3, .int 0), (0, .ref 6), (1, .long a1)]) hc dX2_spreadMarks_3 (hN 4 rfl) rfl rfl ?_
  refine w_sub [2, 3, 1, 0] rfl ?_
  exact wl_X2_spreadMarks_5 a1 hc hq hK hR hn FU 0 1 I L
set_option maxRecDepth 100000 in
set_option maxHeartbeats 4000000 in
theorem wl_X2_blockOf_53 {G : GT (Int32 × Mm)} {rm : Nat} (v1_15 : Int32) (v4_17 : Int32) (hc : Cx G cX2_blockOf yX2_blockOf.cls (some .int) 2 50) (hq : RetQ G anIW meW) (hK : gK G = lK rm) (hR : gR G = lR rm) (hn : gnL G = 6) (k0 : Int32 → MI → ML → Option (Int32 × Mm)) (hk0 : ∀ (v3_24 : Int32) (I_25 : MI) (L_26 : ML), WW G 84 [(0, .ref 6), (1, .int v1_15), (3, .int v3_24), (4, .int v4_17)] [] I_25 L_26 (k0 v3_24 I_25 L_26)) : ∀ (n : Nat) (v3_16 : Int32) (v5_18 : Int32) (I_19 : MI) (L_20 : ML), WW G 53 [(0, .ref 6), (1, .int v1_15), (3, .int v3_16), (4, .int v4_17), (5, .int v5_18)] [] I_19 L_20 (f_X2_blockOf_53 v1_15 v4_17 k0 n v3_16 v5_18 I_19 L_20) := by
  have hN : ∀ i, Nat.blt i 6 = true → i < gnL G := fun i h => hn ▸ Nat.blt_eq.mp h
  intro n
  induction n with
  | zero => intros; exact w_none _ _ _
  | succ n ih =>
    intros v3_16 v5_18 I_19 L_20
    rw [f_X2_blockOf_53]
    refine w_iload (q := 55) (i := 5) (j := 4) hc dX2_blockOf_53 rfl rfl ?_
    refine w_aload_n (q := 56) (i := 0) (j := 0) hc dX2_blockOf_55 rfl rfl rfl ?_
    refine gf_X2_15 (q := 59) hc dX2_blockOf_56 (k_6 hK) rfl ?_
    refine w_icmpge (q := 62) (tgt := 84) hc dX2_blockOf_59 rfl rfl ?_ ?_
    · refine w_sub [0, 1, 2, 3] rfl ?_
      exact hk0 v3_16 I_19 L_20
    · refine w_aload_n (q := 63) (i := 0) (j := 0) hc dX2_blockOf_62 rfl rfl rfl ?_
      refine w_aload_n (q := 64) (i := 0) (j := 0) hc dX2_blockOf_63 rfl rfl rfl ?_
      refine gf_X2_18 (q := 67) hc dX2_blockOf_64 (k_6 hK) (r_6_2 hR) rfl ?_
      refine w_iload (q := 69) (i := 5) (j := 4) hc dX2_blockOf_67 rfl rfl ?_
      refine w_lald (q := 70) hc dX2_blockOf_69 (k_7 hK) rfl ?_
      refine w_callV_Wz (q := 73) (st := []) (args := [.long (L_20 7 (ix v5_18))]) (p := 6) hc (m_X2_spreadMarks hK hR) dX2_blockOf_70 ml_X2_152 cf_X2_spreadMarks iv_X2_spreadMarks (k_6 hK) (C := RX2) (T := TX2) (N := 13) rfl rfl (Nat.lt_of_succ_le (Nat.le_of_ble_eq_true rfl)) rfl rfl (Nat.le_of_ble_eq_true rfl) ⟨Nat.le_of_ble_eq_true rfl, Nat.le_of_ble_eq_true rfl⟩ rfl (fun q_21 => ?_)
      refine w_ifeq (q := 76) (tgt := 78) hc dX2_blockOf_73 rfl rfl ?_ ?_
      · refine w_iincB (q := 81) (i := 5) (j := 4) (lv' := fun v5_22 => [(5, .int v5_22), (0, .ref 6), (1, .int v1_15), (3, .int v3_16), (4, .int v4_17)]) hc dX2_blockOf_78 rfl ci_1 (hN 5 rfl) (fun _ => rfl) rfl (fun v5_22 => ?_)
        refine w_goto (tgt := 53) hc dX2_blockOf_81 rfl ?_
        refine w_sub [1, 2, 3, 4, 0] rfl ?_
        exact ih v3_16 v5_22 q_21.2.1 q_21.2.2
      · refine w_iconst (q := 77) hc dX2_blockOf_76 ci_1 rfl ?_
        refine w_istore_n (q := 78) (i := 3) (lv' := [(3, .int 1), (0, .ref 6), (1, .int v1_15), (4, .int v4_17), (5, .int v5_18)]) hc dX2_blockOf_77 rfl (hN 3 rfl) rfl rfl ?_
        refine w_iincB (q := 81) (i := 5) (j := 4) (lv' := fun v5_23 => [(5, .int v5_23), (3, .int 1), (0, .ref 6), (1, .int v1_15), (4, .int v4_17)]) hc dX2_blockOf_78 rfl ci_1 (hN 5 rfl) (fun _ => rfl) rfl (fun v5_23 => ?_)
        refine w_goto (tgt := 53) hc dX2_blockOf_81 rfl ?_
        refine w_sub [2, 3, 1, 4, 0] rfl ?_
        exact ih 1 v5_23 q_21.2.1 q_21.2.2
set_option maxRecDepth 100000 in
set_option maxHeartbeats 4000000 in
theorem wl_X2_blockOf_96 {G : GT (Int32 × Mm)} {rm : Nat} (v1_30 : Int32) (I : MI) (L : ML) (hc : Cx G cX2_blockOf yX2_blockOf.cls (some .int) 2 50) (hq : RetQ G anIW meW) (hK : gK G = lK rm) (hR : gR G = lR rm) (hn : gnL G = 6) : ∀ (n : Nat) (v4_31 : Int32) (v5_32 : Int32), WW G 96 [(0, .ref 6), (1, .int v1_30), (4, .int v4_31), (5, .int v5_32)] [] I L (f_X2_blockOf_96 v1_30 I L n v4_31 v5_32) := by
  have hN : ∀ i, Nat.blt i 6 = true → i < gnL G := fun i h => hn ▸ Nat.blt_eq.mp h
  intro n
  induction n with
  | zero => intros; exact w_none _ _ _
  | succ n ih =>
    intros v4_31 v5_32
    rw [f_X2_blockOf_96]
    refine w_iload (q := 98) (i := 5) (j := 3) hc dX2_blockOf_96 rfl rfl ?_
    refine w_aload_n (q := 99) (i := 0) (j := 0) hc dX2_blockOf_98 rfl rfl rfl ?_
    refine gf_X2_9 (q := 102) hc dX2_blockOf_99 (k_6 hK) rfl ?_
    refine w_icmpge (q := 105) (tgt := 136) hc dX2_blockOf_102 rfl rfl ?_ ?_
    · refine w_iload (q := 138) (i := 4) (j := 2) hc dX2_blockOf_136 rfl rfl ?_
      exact w_ireturn (v := v4_31) hc hq dX2_blockOf_138 rfl rfl rfl
    · refine w_aload_n (q := 106) (i := 0) (j := 0) hc dX2_blockOf_105 rfl rfl rfl ?_
      refine gf_X2_60 (q := 109) hc dX2_blockOf_106 (k_6 hK) (r_6_12 hR) rfl ?_
      refine w_iload (q := 111) (i := 5) (j := 3) hc dX2_blockOf_109 rfl rfl ?_
      refine w_iald (q := 112) hc dX2_blockOf_111 (k_36 hK) rfl ?_
      refine w_aload_n (q := 113) (i := 0) (j := 0) hc dX2_blockOf_112 rfl rfl rfl ?_
      refine gf_X2_60 (q := 116) hc dX2_blockOf_113 (k_6 hK) (r_6_12 hR) rfl ?_
      refine w_iload_n (q := 117) (i := 1) (j := 1) hc dX2_blockOf_116 rfl rfl rfl ?_
      refine w_iald (q := 118) hc dX2_blockOf_117 (k_36 hK) rfl ?_
      refine w_icmpne (q := 121) (tgt := 130) hc dX2_blockOf_118 rfl rfl ?_ ?_
      · refine w_iload (q := 123) (i := 4) (j := 2) hc dX2_blockOf_121 rfl rfl ?_
        refine w_iconst (q := 124) hc dX2_blockOf_123 ci_1 rfl ?_
        refine w_iload (q := 126) (i := 5) (j := 3) hc dX2_blockOf_124 rfl rfl ?_
        refine w_ishl (q := 127) hc dX2_blockOf_126  rfl ?_
        refine w_ior (q := 128) hc dX2_blockOf_127  rfl ?_
        refine w_istoreB (q := 130) (i := 4) (lv' := fun v4_34 => [(4, .int v4_34), (0, .ref 6), (1, .int v1_30), (5, .int v5_32)]) hc dX2_blockOf_128 (hN 4 rfl) (fun _ => rfl) rfl (fun v4_34 => ?_)
        refine w_iincB (q := 133) (i := 5) (j := 3) (lv' := fun v5_35 => [(5, .int v5_35), (4, .int v4_34), (0, .ref 6), (1, .int v1_30)]) hc dX2_blockOf_130 rfl ci_1 (hN 5 rfl) (fun _ => rfl) rfl (fun v5_35 => ?_)
        refine w_goto (tgt := 96) hc dX2_blockOf_133 rfl ?_
        refine w_sub [2, 3, 1, 0] rfl ?_
        exact ih v4_34 v5_35
      · refine w_iincB (q := 133) (i := 5) (j := 3) (lv' := fun v5_33 => [(5, .int v5_33), (0, .ref 6), (1, .int v1_30), (4, .int v4_31)]) hc dX2_blockOf_130 rfl ci_1 (hN 5 rfl) (fun _ => rfl) rfl (fun v5_33 => ?_)
        refine w_goto (tgt := 96) hc dX2_blockOf_133 rfl ?_
        refine w_sub [1, 2, 3, 0] rfl ?_
        exact ih v4_31 v5_33
set_option maxRecDepth 100000 in
set_option maxHeartbeats 4000000 in
theorem wl_X2_blockOf_37 {G : GT (Int32 × Mm)} {rm : Nat} (v1_10 : Int32) (hc : Cx G cX2_blockOf yX2_blockOf.cls (some .int) 2 50) (hq : RetQ G anIW meW) (hK : gK G = lK rm) (hR : gR G = lR rm) (hn : gnL G = 6) (k0 : MI → ML → Option (Int32 × Mm)) (hk0 : ∀ (I_28 : MI) (L_29 : ML), WW G 90 [(0, .ref 6), (1, .int v1_10)] [] I_28 L_29 (k0 I_28 L_29)) : ∀ (n : Nat) (v3_11 : Int32) (v4_12 : Int32) (I_13 : MI) (L_14 : ML), WW G 37 [(0, .ref 6), (1, .int v1_10), (3, .int v3_11), (4, .int v4_12)] [] I_13 L_14 (f_X2_blockOf_37 v1_10 k0 n v3_11 v4_12 I_13 L_14) := by
  have hN : ∀ i, Nat.blt i 6 = true → i < gnL G := fun i h => hn ▸ Nat.blt_eq.mp h
  intro n
  induction n with
  | zero => intros; exact w_none _ _ _
  | succ n ih =>
    intros v3_11 v4_12 I_13 L_14
    rw [f_X2_blockOf_37]
    refine w_iload (q := 39) (i := 4) (j := 3) hc dX2_blockOf_37 rfl rfl ?_
    refine w_bipush (q := 41) hc dX2_blockOf_39 cb_10 rfl ?_
    refine w_icmpge (q := 44) (tgt := 90) hc dX2_blockOf_41 rfl rfl ?_ ?_
    · refine w_sub [0, 1] rfl ?_
      exact hk0 I_13 L_14
    · refine w_iload_n (q := 45) (i := 3) (j := 2) hc dX2_blockOf_44 rfl rfl rfl ?_
      refine w_ifeq (q := 48) (tgt := 90) hc dX2_blockOf_45 rfl rfl ?_ ?_
      · refine w_sub [0, 1] rfl ?_
        exact hk0 I_13 L_14
      · refine w_iconst (q := 49) hc dX2_blockOf_48 ci_0 rfl ?_
        refine w_istore_n (q := 50) (i := 3) (lv' := [(3, .int 0), (0, .ref 6), (1, .int v1_10), (4, .int v4_12)]) hc dX2_blockOf_49 rfl (hN 3 rfl) rfl rfl ?_
        refine w_iconst (q := 51) hc dX2_blockOf_50 ci_0 rfl ?_
        refine w_istore (q := 53) (i := 5) (lv' := [(5, .int 0), (3, .int 0), (0, .ref 6), (1, .int v1_10), (4, .int v4_12)]) hc dX2_blockOf_51 (hN 5 rfl) rfl rfl ?_
        refine w_sub [2, 3, 1, 4, 0] rfl ?_
        refine wl_X2_blockOf_53 v1_10 v4_12 hc hq hK hR hn _ ?_ FU 0 0 I_13 L_14
        intro v3_24 I_25 L_26
        refine w_iincB (q := 87) (i := 4) (j := 3) (lv' := fun v4_27 => [(4, .int v4_27), (0, .ref 6), (1, .int v1_10), (3, .int v3_24)]) hc dX2_blockOf_84 rfl ci_1 (hN 4 rfl) (fun _ => rfl) rfl (fun v4_27 => ?_)
        refine w_goto (tgt := 37) hc dX2_blockOf_87 rfl ?_
        refine w_sub [1, 2, 3, 0] rfl ?_
        exact ih v3_24 v4_27 I_25 L_26
set_option maxRecDepth 100000 in
set_option maxHeartbeats 4000000 in
theorem wl_X2_blockOf_2 {G : GT (Int32 × Mm)} {rm : Nat} (v1_1 : Int32) (v2_2 : Int32) (L : ML) (hc : Cx G cX2_blockOf yX2_blockOf.cls (some .int) 2 50) (hq : RetQ G anIW meW) (hK : gK G = lK rm) (hR : gR G = lR rm) (hn : gnL G = 6) (k0 : MI → Option (Int32 × Mm)) (hk0 : ∀ (I_9 : MI), WW G 32 [(0, .ref 6), (1, .int v1_1)] [] I_9 L (k0 I_9)) : ∀ (n : Nat) (v3_3 : Int32) (I_4 : MI), WW G 2 [(0, .ref 6), (1, .int v1_1), (2, .int v2_2), (3, .int v3_3)] [] I_4 L (f_X2_blockOf_2 v1_1 v2_2 L k0 n v3_3 I_4) := by
  have hN : ∀ i, Nat.blt i 6 = true → i < gnL G := fun i h => hn ▸ Nat.blt_eq.mp h
  intro n
  induction n with
  | zero => intros; exact w_none _ _ _
  | succ n ih =>
    intros v3_3 I_4
    rw [f_X2_blockOf_2]
    refine w_iload_n (q := 3) (i := 3) (j := 3) hc dX2_blockOf_2 rfl rfl rfl ?_
    refine w_aload_n (q := 4) (i := 0) (j := 0) hc dX2_blockOf_3 rfl rfl rfl ?_
    refine gf_X2_9 (q := 7) hc dX2_blockOf_4 (k_6 hK) rfl ?_
    refine w_icmpge (q := 10) (tgt := 32) hc dX2_blockOf_7 rfl rfl ?_ ?_
    · refine w_sub [0, 1] rfl ?_
      exact hk0 I_4
    · refine w_aload_n (q := 11) (i := 0) (j := 0) hc dX2_blockOf_10 rfl rfl rfl ?_
      refine gf_X2_60 (q := 14) hc dX2_blockOf_11 (k_6 hK) (r_6_12 hR) rfl ?_
      refine w_iload_n (q := 15) (i := 3) (j := 3) hc dX2_blockOf_14 rfl rfl rfl ?_
      refine w_iload_n (q := 16) (i := 3) (j := 3) hc dX2_blockOf_15 rfl rfl rfl ?_
      refine w_iload_n (q := 17) (i := 2) (j := 2) hc dX2_blockOf_16 rfl rfl rfl ?_
      refine w_icmpne (q := 20) (tgt := 24) hc dX2_blockOf_17 rfl rfl ?_ ?_
      · refine w_iload_n (q := 21) (i := 1) (j := 1) hc dX2_blockOf_20 rfl rfl rfl ?_
        refine w_goto (tgt := 25) hc dX2_blockOf_21 rfl ?_
        refine w_iast (q := 26) hc dX2_blockOf_25 (k_36 hK) rfl (fun I_7 => ?_)
        refine w_iincB (q := 29) (i := 3) (j := 3) (lv' := fun v3_8 => [(3, .int v3_8), (0, .ref 6), (1, .int v1_1), (2, .int v2_2)]) hc dX2_blockOf_26 rfl ci_1 (hN 3 rfl) (fun _ => rfl) rfl (fun v3_8 => ?_)
        refine w_goto (tgt := 2) hc dX2_blockOf_29 rfl ?_
        refine w_sub [1, 2, 3, 0] rfl ?_
        exact ih v3_8 I_7
      · refine w_iload_n (q := 25) (i := 3) (j := 3) hc dX2_blockOf_24 rfl rfl rfl ?_
        refine w_iast (q := 26) hc dX2_blockOf_25 (k_36 hK) rfl (fun I_5 => ?_)
        refine w_iincB (q := 29) (i := 3) (j := 3) (lv' := fun v3_6 => [(3, .int v3_6), (0, .ref 6), (1, .int v1_1), (2, .int v2_2)]) hc dX2_blockOf_26 rfl ci_1 (hN 3 rfl) (fun _ => rfl) rfl (fun v3_6 => ?_)
        refine w_goto (tgt := 2) hc dX2_blockOf_29 rfl ?_
        refine w_sub [1, 2, 3, 0] rfl ?_
        exact ih v3_6 I_5
set_option maxRecDepth 100000 in
set_option maxHeartbeats 4000000 in
theorem m_X2_blockOf {l : Launch} {K : KT} {R : MR} {rm : Nat} {a1 : Int32} {a2 : Int32} {I : MI} {L : ML} (hK0 : K = lK rm) (hR0 : R = lR rm) : MFg l yX2_blockOf cX2_blockOf 6 (some .int) 2 50 [.ref 6, .int a1, .int a2] K R I L anIW meW (f_X2_blockOf a1 a2 I L) := by
  refine mf_of (plainFor_of_name (by decide)) (Nat.le_of_ble_eq_true rfl) ?_
  intro G hc _ hK1 hR1 hn hq
  have hK := hK1.trans hK0
  have hR := hR1.trans hR0
  have hN : ∀ i, Nat.blt i 6 = true → i < gnL G := fun i h => hn ▸ Nat.blt_eq.mp h
  unfold f_X2_blockOf
  show WW G 0 [(0, .ref 6), (1, .int a1), (2, .int a2)] [] I L _
  refine w_iconst (q := 1) hc dX2_blockOf_0 ci_0 rfl ?_
  refine w_istore_n (q := 2) (i := 3) (lv' := [(3, .int 0), (0, .ref 6), (1, .int a1), (2, .int a2)]) hc dX2_blockOf_1 rfl (hN 3 rfl) rfl rfl ?_
  refine w_sub [1, 2, 3, 0] rfl ?_
  refine wl_X2_blockOf_2 a1 a2 L hc hq hK hR hn _ ?_ FU 0 I
  intro I_9
  refine w_iconst (q := 33) hc dX2_blockOf_32 ci_1 rfl ?_
  refine w_istore_n (q := 34) (i := 3) (lv' := [(3, .int 1), (0, .ref 6), (1, .int a1)]) hc dX2_blockOf_33 rfl (hN 3 rfl) rfl rfl ?_
  refine w_iconst (q := 35) hc dX2_blockOf_34 ci_0 rfl ?_
  refine w_istore (q := 37) (i := 4) (lv' := [(4, .int 0), (3, .int 1), (0, .ref 6), (1, .int a1)]) hc dX2_blockOf_35 (hN 4 rfl) rfl rfl ?_
  refine w_sub [2, 3, 1, 0] rfl ?_
  refine wl_X2_blockOf_37 a1 hc hq hK hR hn _ ?_ FU 1 0 I_9 L
  intro I_28 L_29
  refine w_iconst (q := 91) hc dX2_blockOf_90 ci_0 rfl ?_
  refine w_istore (q := 93) (i := 4) (lv' := [(4, .int 0), (0, .ref 6), (1, .int a1)]) hc dX2_blockOf_91 (hN 4 rfl) rfl rfl ?_
  refine w_iconst (q := 94) hc dX2_blockOf_93 ci_0 rfl ?_
  refine w_istore (q := 96) (i := 5) (lv' := [(5, .int 0), (4, .int 0), (0, .ref 6), (1, .int a1)]) hc dX2_blockOf_94 (hN 5 rfl) rfl rfl ?_
  refine w_sub [2, 3, 1, 0] rfl ?_
  exact wl_X2_blockOf_96 a1 I_28 L_29 hc hq hK hR hn FU 0 0
set_option maxRecDepth 100000 in
set_option maxHeartbeats 4000000 in
theorem wl_X2_isPrimitive_22 {G : GT (Bool × Mm)} {rm : Nat} (v1_3 : Int32) (hc : Cx G cX2_isPrimitive yX2_isPrimitive.cls (some .boolean) 3 75) (hq : RetQ G anZW meW) (hK : gK G = lK rm) (hR : gR G = lR rm) (hn : gnL G = 3) : ∀ (n : Nat) (v2_4 : Int32) (I_5 : MI) (L_6 : ML), WW G 22 [(0, .ref 6), (1, .int v1_3), (2, .int v2_4)] [] I_5 L_6 (f_X2_isPrimitive_22 v1_3 n v2_4 I_5 L_6) := by
  have hN : ∀ i, Nat.blt i 3 = true → i < gnL G := fun i h => hn ▸ Nat.blt_eq.mp h
  intro n
  induction n with
  | zero => intros; exact w_none _ _ _
  | succ n ih =>
    intros v2_4 I_5 L_6
    rw [f_X2_isPrimitive_22]
    refine w_iload_n (q := 23) (i := 2) (j := 2) hc dX2_isPrimitive_22 rfl rfl rfl ?_
    refine w_aload_n (q := 24) (i := 0) (j := 0) hc dX2_isPrimitive_23 rfl rfl rfl ?_
    refine gf_X2_9 (q := 27) hc dX2_isPrimitive_24 (k_6 hK) rfl ?_
    refine w_icmpge (q := 30) (tgt := 48) hc dX2_isPrimitive_27 rfl rfl ?_ ?_
    · refine w_iconst (q := 49) hc dX2_isPrimitive_48 ci_1 rfl ?_
      exact w_ireturn (v := b2i true) hc hq dX2_isPrimitive_49 (nar_b2i true) rfl rfl
    · refine w_aload_n (q := 31) (i := 0) (j := 0) hc dX2_isPrimitive_30 rfl rfl rfl ?_
      refine w_iconst (q := 32) hc dX2_isPrimitive_31 ci_0 rfl ?_
      refine w_iload_n (q := 33) (i := 2) (j := 2) hc dX2_isPrimitive_32 rfl rfl rfl ?_
      refine w_callV_Wi (q := 36) (st := []) (args := [.int 0, .int v2_4]) (p := 6) hc (m_X2_blockOf hK hR) dX2_isPrimitive_33 ml_X2_149 cf_X2_blockOf iv_X2_blockOf (k_6 hK) (C := RX2) (T := TX2) (N := 13) rfl rfl (Nat.lt_of_succ_le (Nat.le_of_ble_eq_true rfl)) rfl rfl (Nat.le_of_ble_eq_true rfl) ⟨Nat.le_of_ble_eq_true rfl, Nat.le_of_ble_eq_true rfl⟩ rfl (fun q_7 => ?_)
      refine w_iload_n (q := 37) (i := 1) (j := 1) hc dX2_isPrimitive_36 rfl rfl rfl ?_
      refine w_icmpeq (q := 40) (tgt := 42) hc dX2_isPrimitive_37 rfl rfl ?_ ?_
      · refine w_iincB (q := 45) (i := 2) (j := 2) (lv' := fun v2_8 => [(2, .int v2_8), (0, .ref 6), (1, .int v1_3)]) hc dX2_isPrimitive_42 rfl ci_1 (hN 2 rfl) (fun _ => rfl) rfl (fun v2_8 => ?_)
        refine w_goto (tgt := 22) hc dX2_isPrimitive_45 rfl ?_
        refine w_sub [1, 2, 0] rfl ?_
        exact ih v2_8 q_7.2.1 q_7.2.2
      · refine w_iconst (q := 41) hc dX2_isPrimitive_40 ci_0 rfl ?_
        exact w_ireturn (v := b2i false) hc hq dX2_isPrimitive_41 (nar_b2i false) rfl rfl
set_option maxRecDepth 100000 in
set_option maxHeartbeats 4000000 in
theorem m_X2_isPrimitive {l : Launch} {K : KT} {R : MR} {rm : Nat} {I : MI} {L : ML} (hK0 : K = lK rm) (hR0 : R = lR rm) : MFg l yX2_isPrimitive cX2_isPrimitive 3 (some .boolean) 3 75 [.ref 6] K R I L anZW meW (f_X2_isPrimitive I L) := by
  refine mf_of (plainFor_of_name (by decide)) (Nat.le_of_ble_eq_true rfl) ?_
  intro G hc _ hK1 hR1 hn hq
  have hK := hK1.trans hK0
  have hR := hR1.trans hR0
  have hN : ∀ i, Nat.blt i 3 = true → i < gnL G := fun i h => hn ▸ Nat.blt_eq.mp h
  unfold f_X2_isPrimitive
  show WW G 0 [(0, .ref 6)] [] I L _
  refine w_iconst (q := 1) hc dX2_isPrimitive_0 ci_1 rfl ?_
  refine w_aload_n (q := 2) (i := 0) (j := 0) hc dX2_isPrimitive_1 rfl rfl rfl ?_
  refine gf_X2_9 (q := 5) hc dX2_isPrimitive_2 (k_6 hK) rfl ?_
  refine w_ishl (q := 6) hc dX2_isPrimitive_5  rfl ?_
  refine w_iconst (q := 7) hc dX2_isPrimitive_6 ci_1 rfl ?_
  refine w_isub (q := 8) hc dX2_isPrimitive_7  rfl ?_
  refine w_istore_nB (q := 9) (i := 1) (lv' := fun v1_1 => [(1, .int v1_1), (0, .ref 6)]) hc dX2_isPrimitive_8 rfl (hN 1 rfl) (fun _ => rfl) rfl (fun v1_1 => ?_)
  refine w_aload_n (q := 10) (i := 0) (j := 1) hc dX2_isPrimitive_9 rfl rfl rfl ?_
  refine w_iconst (q := 11) hc dX2_isPrimitive_10 ci_0 rfl ?_
  refine w_callV_Ri (q := 14) (st := []) (args := [.int 0]) (p := 6) hc (m_X2_reachedFrom hK hR) dX2_isPrimitive_11 ml_X2_103 cf_X2_reachedFrom iv_X2_reachedFrom (k_6 hK) (C := RX2) (T := TX2) (N := 13) rfl rfl (Nat.lt_of_succ_le (Nat.le_of_ble_eq_true rfl)) rfl rfl (Nat.le_of_ble_eq_true rfl) ⟨Nat.le_of_ble_eq_true rfl, Nat.le_of_ble_eq_true rfl⟩ rfl (fun q_2 => ?_)
  refine w_iload_n (q := 15) (i := 1) (j := 0) hc dX2_isPrimitive_14 rfl rfl rfl ?_
  refine w_icmpeq (q := 18) (tgt := 20) hc dX2_isPrimitive_15 rfl rfl ?_ ?_
  · refine w_iconst (q := 21) hc dX2_isPrimitive_20 ci_1 rfl ?_
    refine w_istore_n (q := 22) (i := 2) (lv' := [(2, .int 1), (1, .int v1_1), (0, .ref 6)]) hc dX2_isPrimitive_21 rfl (hN 2 rfl) rfl rfl ?_
    refine w_sub [2, 1, 0] rfl ?_
    exact wl_X2_isPrimitive_22 v1_1 hc hq hK hR hn FU 1 I L
  · refine w_iconst (q := 19) hc dX2_isPrimitive_18 ci_0 rfl ?_
    exact w_ireturn (v := b2i false) hc hq dX2_isPrimitive_19 (nar_b2i false) rfl rfl
set_option maxRecDepth 100000 in
set_option maxHeartbeats 4000000 in
theorem m_X2_sizeBy {l : Launch} {K : KT} {R : MR} {rm : Nat} {a1 : Int32} {I : MI} {L : ML} (hK0 : K = lK rm) (hR0 : R = lR rm) : MFg l yX2_sizeBy cX2_sizeBy 3 (some .int) 5 137 [.ref 6, .int a1] K R I L anIW meW (f_X2_sizeBy a1 I L) := by
  refine mf_of (plainFor_of_name (by decide)) (Nat.le_of_ble_eq_true rfl) ?_
  intro G hc _ hK1 hR1 hn hq
  have hK := hK1.trans hK0
  have hR := hR1.trans hR0
  have hN : ∀ i, Nat.blt i 3 = true → i < gnL G := fun i h => hn ▸ Nat.blt_eq.mp h
  unfold f_X2_sizeBy
  show WW G 0 [(0, .ref 6), (1, .int a1)] [] I L _
  refine w_iload_n (q := 1) (i := 1) (j := 1) hc dX2_sizeBy_0 rfl rfl rfl ?_
  refine w_aload_n (q := 2) (i := 0) (j := 0) hc dX2_sizeBy_1 rfl rfl rfl ?_
  refine w_callV_Ri (q := 5) (st := [.int a1]) (args := []) (p := 6) hc (m_X2_everyMove hK hR) dX2_sizeBy_2 ml_X2_75 cf_X2_everyMove iv_X2_everyMove (k_6 hK) (C := RX2) (T := TX2) (N := 13) rfl rfl (Nat.lt_of_succ_le (Nat.le_of_ble_eq_true rfl)) rfl rfl (Nat.le_of_ble_eq_true rfl) ⟨Nat.le_of_ble_eq_true rfl, Nat.le_of_ble_eq_true rfl⟩ rfl (fun q_1 => ?_)
  refine w_iand (q := 6) hc dX2_sizeBy_5  rfl ?_
  refine w_istore_nB (q := 7) (i := 2) (lv' := fun v2_2 => [(2, .int v2_2), (0, .ref 6), (1, .int a1)]) hc dX2_sizeBy_6 rfl (hN 2 rfl) (fun _ => rfl) rfl (fun v2_2 => ?_)
  refine w_aload_n (q := 8) (i := 0) (j := 1) hc dX2_sizeBy_7 rfl rfl rfl ?_
  refine gf_X2_38 (q := 11) hc dX2_sizeBy_8 (k_6 hK) (r_6_7 hR) rfl ?_
  refine w_iload_n (q := 12) (i := 2) (j := 0) hc dX2_sizeBy_11 rfl rfl rfl ?_
  refine w_iald (q := 13) hc dX2_sizeBy_12 (k_29 hK) rfl ?_
  refine w_ifne (q := 16) (tgt := 46) hc dX2_sizeBy_13 rfl rfl ?_ ?_
  · refine w_aload_n (q := 17) (i := 0) (j := 1) hc dX2_sizeBy_16 rfl rfl rfl ?_
    refine gf_X2_32 (q := 20) hc dX2_sizeBy_17 (k_6 hK) (r_6_5 hR) rfl ?_
    refine w_aload_n (q := 21) (i := 0) (j := 1) hc dX2_sizeBy_20 rfl rfl rfl ?_
    refine gf_X2_18 (q := 24) hc dX2_sizeBy_21 (k_6 hK) (r_6_2 hR) rfl ?_
    refine w_iload_n (q := 25) (i := 2) (j := 0) hc dX2_sizeBy_24 rfl rfl rfl ?_
    refine w_aload_n (q := 26) (i := 0) (j := 1) hc dX2_sizeBy_25 rfl rfl rfl ?_
    refine gf_X2_9 (q := 29) hc dX2_sizeBy_26 (k_6 hK) rfl ?_
    refine w_callV_Wi (q := 32) (st := []) (args := [.ref 7, .int v2_2, .int (I 6 0)]) (p := 15) hc (m_X0_gather hK hR (ch_15) (kB hK (k_7 hK))) dX2_sizeBy_29 ml_X2_79 cf_X0_gather iv_X0_gather (k_15 hK) (C := RX0) (T := TX0) (N := 8) rfl rfl (Nat.lt_of_succ_le (Nat.le_of_ble_eq_true rfl)) rfl rfl (Nat.le_of_ble_eq_true rfl) ⟨Nat.le_of_ble_eq_true rfl, Nat.le_of_ble_eq_true rfl⟩ rfl (fun q_3 => ?_)
    refine w_pop_int (q := 33) hc dX2_sizeBy_32  rfl ?_
    refine w_aload_n (q := 34) (i := 0) (j := 1) hc dX2_sizeBy_33 rfl rfl rfl ?_
    refine gf_X2_38 (q := 37) hc dX2_sizeBy_34 (k_6 hK) (r_6_7 hR) rfl ?_
    refine w_iload_n (q := 38) (i := 2) (j := 0) hc dX2_sizeBy_37 rfl rfl rfl ?_
    refine w_aload_n (q := 39) (i := 0) (j := 1) hc dX2_sizeBy_38 rfl rfl rfl ?_
    refine gf_X2_32 (q := 42) hc dX2_sizeBy_39 (k_6 hK) (r_6_5 hR) rfl ?_
    refine w_callV_Ri (q := 45) (st := [.int v2_2, .ref 29]) (args := []) (p := 15) hc (m_X0_size hK hR (ch_15)) dX2_sizeBy_42 ml_X2_92 cf_X0_size iv_X0_size (k_15 hK) (C := RX0) (T := TX0) (N := 8) rfl rfl (Nat.lt_of_succ_le (Nat.le_of_ble_eq_true rfl)) rfl rfl (Nat.le_of_ble_eq_true rfl) ⟨Nat.le_of_ble_eq_true rfl, Nat.le_of_ble_eq_true rfl⟩ rfl (fun q_4 => ?_)
    refine w_iast (q := 46) hc dX2_sizeBy_45 (k_29 hK) rfl (fun I_5 => ?_)
    refine w_aload_n (q := 47) (i := 0) (j := 1) hc dX2_sizeBy_46 rfl rfl rfl ?_
    refine gf_X2_38 (q := 50) hc dX2_sizeBy_47 (k_6 hK) (r_6_7 hR) rfl ?_
    refine w_iload_n (q := 51) (i := 2) (j := 0) hc dX2_sizeBy_50 rfl rfl rfl ?_
    refine w_iald (q := 52) hc dX2_sizeBy_51 (k_29 hK) rfl ?_
    exact w_ireturn (v := (I_5 29 (ix v2_2))) hc hq dX2_sizeBy_52 rfl rfl rfl
  · refine w_aload_n (q := 47) (i := 0) (j := 1) hc dX2_sizeBy_46 rfl rfl rfl ?_
    refine gf_X2_38 (q := 50) hc dX2_sizeBy_47 (k_6 hK) (r_6_7 hR) rfl ?_
    refine w_iload_n (q := 51) (i := 2) (j := 0) hc dX2_sizeBy_50 rfl rfl rfl ?_
    refine w_iald (q := 52) hc dX2_sizeBy_51 (k_29 hK) rfl ?_
    exact w_ireturn (v := (I 29 (ix v2_2))) hc hq dX2_sizeBy_52 rfl rfl rfl
set_option maxRecDepth 100000 in
set_option maxHeartbeats 4000000 in
theorem wl_X2_countInBoth_45 {G : GT ((Int32 × Mm) × Nat)} (rm : Nat) (I : MI) (L : ML) (hc : Cx G cX2_countInBoth yX2_countInBoth.cls (some .int) 5 137) {ad0 : Nat → Nat} {rm0 : Nat} (hX : AXX G ad0 rm0 rm anIA meA roA) (hRm : gRm G = rmA 5 137) (hn : gnL G = 8) (hrm : rm ≠ 0) : ∀ (n : Nat) (v4_5 : Int32) (v5_6 : Int32), WW G 45 [(0, .ref 6), (3, .ref 69), (4, .int v4_5), (5, .int v5_6)] [] I L (f_X2_countInBoth_45 rm I L n v4_5 v5_6) := by
  have hK := hX.2.2.2.1
  have hR := hX.2.2.2.2.1
  have hN : ∀ i, Nat.blt i 8 = true → i < gnL G := fun i h => hn ▸ Nat.blt_eq.mp h
  intro n
  induction n with
  | zero => intros; exact w_none _ _ _
  | succ n ih =>
    intros v4_5 v5_6
    rw [f_X2_countInBoth_45]
    refine w_iload (q := 47) (i := 5) (j := 3) hc dX2_countInBoth_45 rfl rfl ?_
    refine w_aload_n (q := 48) (i := 3) (j := 1) hc dX2_countInBoth_47 rfl rfl rfl ?_
    refine gf_X2_160 (q := 51) hc dX2_countInBoth_48 (k_69 hK hrm) rfl ?_
    refine w_icmpge (q := 54) (tgt := 95) hc dX2_countInBoth_51 rfl rfl ?_ ?_
    · refine w_iload (q := 97) (i := 4) (j := 2) hc dX2_countInBoth_95 rfl rfl ?_
      exact w_ireturnA (v := v4_5) hc hX dX2_countInBoth_97 rfl rfl rfl rfl
    · refine w_aload_n (q := 55) (i := 3) (j := 1) hc dX2_countInBoth_54 rfl rfl rfl ?_
      refine w_iload (q := 57) (i := 5) (j := 3) hc dX2_countInBoth_55 rfl rfl ?_
      refine w_callV_Rl (q := 60) (st := []) (args := [.int v5_6]) (p := 69) hc (m_X4_turnAt hK hR hrm) dX2_countInBoth_57 ml_X2_163 cf_X4_turnAt iv_X4_turnAt (k_69 hK hrm) (C := RX4) (T := TX4) (N := 16) rfl rfl (Nat.lt_of_succ_le (Nat.le_of_ble_eq_true rfl)) rfl rfl (Nat.le_of_ble_eq_true rfl) ⟨Nat.le_of_ble_eq_true rfl, Nat.le_of_ble_eq_true rfl⟩ rfl (fun q_7 => ?_)
      refine w_lstore (q := 62) (i := 6) (lv' := [(6, .long q_7), (0, .ref 6), (3, .ref 69), (4, .int v4_5), (5, .int v5_6)]) hc dX2_countInBoth_60 (hN 7 rfl) rfl rfl ?_
      refine w_aload_n (q := 63) (i := 0) (j := 1) hc dX2_countInBoth_62 rfl rfl rfl ?_
      refine gf_X2_32 (q := 66) hc dX2_countInBoth_63 (k_6 hK) (r_6_5 hR) rfl ?_
      refine w_lload (q := 68) (i := 6) (j := 0) hc dX2_countInBoth_66 rfl rfl ?_
      refine w_callV_Rz (q := 71) (st := []) (args := [.long q_7]) (p := 15) hc (m_X0_contains hK hR (ch_15)) dX2_countInBoth_68 ml_X2_167 cf_X0_contains iv_X0_contains (k_15 hK) (C := RX0) (T := TX0) (N := 8) rfl rfl (Nat.lt_of_succ_le (Nat.le_of_ble_eq_true rfl)) rfl rfl (Nat.le_of_ble_eq_true rfl) ⟨Nat.le_of_ble_eq_true rfl, Nat.le_of_ble_eq_true rfl⟩ rfl (fun q_8 => ?_)
      refine w_ifeq (q := 74) (tgt := 89) hc dX2_countInBoth_71 rfl rfl ?_ ?_
      · refine w_iincB (q := 92) (i := 5) (j := 4) (lv' := fun v5_9 => [(5, .int v5_9), (6, .long q_7), (0, .ref 6), (3, .ref 69), (4, .int v4_5)]) hc dX2_countInBoth_89 rfl ci_1 (hN 5 rfl) (fun _ => rfl) rfl (fun v5_9 => ?_)
        refine w_goto (tgt := 45) hc dX2_countInBoth_92 rfl ?_
        refine w_sub [2, 3, 4, 0] rfl ?_
        exact ih v4_5 v5_9
      · refine w_aload_n (q := 75) (i := 0) (j := 1) hc dX2_countInBoth_74 rfl rfl rfl ?_
        refine gf_X2_35 (q := 78) hc dX2_countInBoth_75 (k_6 hK) (r_6_6 hR) rfl ?_
        refine w_lload (q := 80) (i := 6) (j := 0) hc dX2_countInBoth_78 rfl rfl ?_
        refine w_callV_Rz (q := 83) (st := []) (args := [.long q_7]) (p := 22) hc (m_X0_contains hK hR (ch_22)) dX2_countInBoth_80 ml_X2_167 cf_X0_contains iv_X0_contains (k_22 hK) (C := RX0) (T := TX0) (N := 8) rfl rfl (Nat.lt_of_succ_le (Nat.le_of_ble_eq_true rfl)) rfl rfl (Nat.le_of_ble_eq_true rfl) ⟨Nat.le_of_ble_eq_true rfl, Nat.le_of_ble_eq_true rfl⟩ rfl (fun q_10 => ?_)
        refine w_ifeq (q := 86) (tgt := 89) hc dX2_countInBoth_83 rfl rfl ?_ ?_
        · refine w_iincB (q := 92) (i := 5) (j := 4) (lv' := fun v5_11 => [(5, .int v5_11), (6, .long q_7), (0, .ref 6), (3, .ref 69), (4, .int v4_5)]) hc dX2_countInBoth_89 rfl ci_1 (hN 5 rfl) (fun _ => rfl) rfl (fun v5_11 => ?_)
          refine w_goto (tgt := 45) hc dX2_countInBoth_92 rfl ?_
          refine w_sub [2, 3, 4, 0] rfl ?_
          exact ih v4_5 v5_11
        · refine w_iincB (q := 89) (i := 4) (j := 3) (lv' := fun v4_12 => [(4, .int v4_12), (6, .long q_7), (0, .ref 6), (3, .ref 69), (5, .int v5_6)]) hc dX2_countInBoth_86 rfl ci_1 (hN 4 rfl) (fun _ => rfl) rfl (fun v4_12 => ?_)
          refine w_iincB (q := 92) (i := 5) (j := 4) (lv' := fun v5_13 => [(5, .int v5_13), (4, .int v4_12), (6, .long q_7), (0, .ref 6), (3, .ref 69)]) hc dX2_countInBoth_89 rfl ci_1 (hN 5 rfl) (fun _ => rfl) rfl (fun v5_13 => ?_)
          refine w_goto (tgt := 45) hc dX2_countInBoth_92 rfl ?_
          refine w_sub [3, 4, 1, 0] rfl ?_
          exact ih v4_12 v5_13
set_option maxRecDepth 100000 in
set_option maxHeartbeats 4000000 in
theorem m_X2_countInBoth {l : Launch} {rm : Nat} {a1 : Int32} {a2 : Int32} {I : MI} {L : ML} : MFa l yX2_countInBoth cX2_countInBoth 8 (some .int) 5 137 [.ref 6, .int a1, .int a2] rm I L anIA meA roA (f_X2_countInBoth rm a1 a2 I L) := by
  refine mfa_of (plainFor_of_name (by decide)) (Nat.le_of_ble_eq_true rfl) ?_
  intro G ad0 hc hX hRm hn
  have hK := hX.2.2.2.1
  have hR := hX.2.2.2.2.1
  have hN : ∀ i, Nat.blt i 8 = true → i < gnL G := fun i h => hn ▸ Nat.blt_eq.mp h
  unfold f_X2_countInBoth
  show WW G 0 [(0, .ref 6), (1, .int a1), (2, .int a2)] [] I L _
  refine w_aload_n (q := 1) (i := 0) (j := 0) hc dX2_countInBoth_0 rfl rfl rfl ?_
  refine gf_X2_32 (q := 4) hc dX2_countInBoth_1 (k_6 hK) (r_6_5 hR) rfl ?_
  refine w_aload_n (q := 5) (i := 0) (j := 0) hc dX2_countInBoth_4 rfl rfl rfl ?_
  refine gf_X2_18 (q := 8) hc dX2_countInBoth_5 (k_6 hK) (r_6_2 hR) rfl ?_
  refine w_iload_n (q := 9) (i := 1) (j := 1) hc dX2_countInBoth_8 rfl rfl rfl ?_
  refine w_aload_n (q := 10) (i := 0) (j := 0) hc dX2_countInBoth_9 rfl rfl rfl ?_
  refine gf_X2_9 (q := 13) hc dX2_countInBoth_10 (k_6 hK) rfl ?_
  refine w_callV_Wi (q := 16) (st := []) (args := [.ref 7, .int a1, .int (I 6 0)]) (p := 15) hc (m_X0_gather hK hR (ch_15) (kB hK (k_7 hK))) dX2_countInBoth_13 ml_X2_79 cf_X0_gather iv_X0_gather (k_15 hK) (C := RX0) (T := TX0) (N := 8) rfl rfl (Nat.lt_of_succ_le (Nat.le_of_ble_eq_true rfl)) rfl rfl (Nat.le_of_ble_eq_true rfl) ⟨Nat.le_of_ble_eq_true rfl, Nat.le_of_ble_eq_true rfl⟩ rfl (fun q_1 => ?_)
  refine w_pop_int (q := 17) hc dX2_countInBoth_16  rfl ?_
  refine w_aload_n (q := 18) (i := 0) (j := 0) hc dX2_countInBoth_17 rfl rfl rfl ?_
  refine gf_X2_35 (q := 21) hc dX2_countInBoth_18 (k_6 hK) (r_6_6 hR) rfl ?_
  refine w_aload_n (q := 22) (i := 0) (j := 0) hc dX2_countInBoth_21 rfl rfl rfl ?_
  refine gf_X2_18 (q := 25) hc dX2_countInBoth_22 (k_6 hK) (r_6_2 hR) rfl ?_
  refine w_iload_n (q := 26) (i := 2) (j := 2) hc dX2_countInBoth_25 rfl rfl rfl ?_
  refine w_aload_n (q := 27) (i := 0) (j := 0) hc dX2_countInBoth_26 rfl rfl rfl ?_
  refine gf_X2_9 (q := 30) hc dX2_countInBoth_27 (k_6 hK) rfl ?_
  refine w_callV_Wi (q := 33) (st := []) (args := [.ref 7, .int a2, .int (q_1.2.1 6 0)]) (p := 22) hc (m_X0_gather hK hR (ch_22) (kB hK (k_7 hK))) dX2_countInBoth_30 ml_X2_79 cf_X0_gather iv_X0_gather (k_22 hK) (C := RX0) (T := TX0) (N := 8) rfl rfl (Nat.lt_of_succ_le (Nat.le_of_ble_eq_true rfl)) rfl rfl (Nat.le_of_ble_eq_true rfl) ⟨Nat.le_of_ble_eq_true rfl, Nat.le_of_ble_eq_true rfl⟩ rfl (fun q_2 => ?_)
  refine w_pop_int (q := 34) hc dX2_countInBoth_33  rfl ?_
  refine w_aload_n (q := 35) (i := 0) (j := 0) hc dX2_countInBoth_34 rfl rfl rfl ?_
  refine w_callA_r (q := 38) (st := []) (args := []) (p := 6) hc hX hRm hn m_X2_all dX2_countInBoth_35 ml_X2_119 cf_X2_all iv_X2_all (k_6 hK) (C := RX2) (T := TX2) (N := 13) rfl rfl (Nat.lt_of_succ_le (Nat.le_of_ble_eq_true rfl)) rfl rfl (Nat.le_of_ble_eq_true rfl) ⟨Nat.le_of_ble_eq_true rfl, Nat.le_of_ble_eq_true rfl⟩ rfl rfl rfl (fun q_3 G hc hX hRm hn => ?_)
  have hK := hX.2.2.2.1
  have hR := hX.2.2.2.2.1
  have hN : ∀ i, Nat.blt i 8 = true → i < gnL G := fun i h => hn ▸ Nat.blt_eq.mp h
  refine w_chk (fun hrm_4 => ?_)
  have hrm : q_3.2 ≠ 0 := of_decide_eq_true hrm_4
  refine w_astore_n (q := 39) (i := 3) (lv' := [(3, .ref 69), (0, .ref 6), (1, .int a1), (2, .int a2)]) hc dX2_countInBoth_38 rfl (hN 3 rfl) rfl rfl ?_
  refine w_iconst (q := 40) hc dX2_countInBoth_39 ci_0 rfl ?_
  refine w_istore (q := 42) (i := 4) (lv' := [(4, .int 0), (3, .ref 69), (0, .ref 6), (1, .int a1), (2, .int a2)]) hc dX2_countInBoth_40 (hN 4 rfl) rfl rfl ?_
  refine w_iconst (q := 43) hc dX2_countInBoth_42 ci_0 rfl ?_
  refine w_istore (q := 45) (i := 5) (lv' := [(5, .int 0), (4, .int 0), (3, .ref 69), (0, .ref 6), (1, .int a1), (2, .int a2)]) hc dX2_countInBoth_43 (hN 5 rfl) rfl rfl ?_
  refine w_sub [3, 2, 1, 0] rfl ?_
  exact wl_X2_countInBoth_45 q_3.2 q_3.1.1 q_3.1.2 hc hX hRm hn hrm FU 0 0
set_option maxRecDepth 100000 in
set_option maxHeartbeats 4000000 in
theorem wl_X2_staysTurned_32 {G : GT (Bool × Mm)} {rm : Nat} (v2_4 : Int32) (I : MI) (L : ML) (hc : Cx G cX2_staysTurned yX2_staysTurned.cls (some .boolean) 5 137) (hq : RetQ G anZW meW) (hK : gK G = lK rm) (hR : gR G = lR rm) (hn : gnL G = 4) (k0 : Option (Bool × Mm)) (hk0 : WW G 79 [(0, .ref 6), (2, .int v2_4)] [] I L (k0)) : ∀ (n : Nat) (v3_5 : Int32), WW G 32 [(0, .ref 6), (2, .int v2_4), (3, .int v3_5)] [] I L (f_X2_staysTurned_32 v2_4 I L k0 n v3_5) := by
  have hN : ∀ i, Nat.blt i 4 = true → i < gnL G := fun i h => hn ▸ Nat.blt_eq.mp h
  intro n
  induction n with
  | zero => intros; exact w_none _ _ _
  | succ n ih =>
    intros v3_5
    rw [f_X2_staysTurned_32]
    refine w_iload_n (q := 33) (i := 3) (j := 2) hc dX2_staysTurned_32 rfl rfl rfl ?_
    refine w_aload_n (q := 34) (i := 0) (j := 0) hc dX2_staysTurned_33 rfl rfl rfl ?_
    refine gf_X2_15 (q := 37) hc dX2_staysTurned_34 (k_6 hK) rfl ?_
    refine w_icmpge (q := 40) (tgt := 79) hc dX2_staysTurned_37 rfl rfl ?_ ?_
    · refine w_sub [0, 1] rfl ?_
      exact hk0
    · refine w_aload_n (q := 41) (i := 0) (j := 0) hc dX2_staysTurned_40 rfl rfl rfl ?_
      refine gf_X2_32 (q := 44) hc dX2_staysTurned_41 (k_6 hK) (r_6_5 hR) rfl ?_
      refine w_aload_n (q := 45) (i := 0) (j := 0) hc dX2_staysTurned_44 rfl rfl rfl ?_
      refine gf_X2_32 (q := 48) hc dX2_staysTurned_45 (k_6 hK) (r_6_5 hR) rfl ?_
      refine w_iload_n (q := 49) (i := 2) (j := 1) hc dX2_staysTurned_48 rfl rfl rfl ?_
      refine w_callV_Rl (q := 52) (st := [.ref 15]) (args := [.int v2_4]) (p := 15) hc (m_X0_maker hK hR (ch_15)) dX2_staysTurned_49 ml_X2_173 cf_X0_maker iv_X0_maker (k_15 hK) (C := RX0) (T := TX0) (N := 8) rfl rfl (Nat.lt_of_succ_le (Nat.le_of_ble_eq_true rfl)) rfl rfl (Nat.le_of_ble_eq_true rfl) ⟨Nat.le_of_ble_eq_true rfl, Nat.le_of_ble_eq_true rfl⟩ rfl (fun q_6 => ?_)
      refine w_aload_n (q := 53) (i := 0) (j := 0) hc dX2_staysTurned_52 rfl rfl rfl ?_
      refine gf_X2_18 (q := 56) hc dX2_staysTurned_53 (k_6 hK) (r_6_2 hR) rfl ?_
      refine w_iload_n (q := 57) (i := 3) (j := 2) hc dX2_staysTurned_56 rfl rfl rfl ?_
      refine w_lald (q := 58) hc dX2_staysTurned_57 (k_7 hK) rfl ?_
      refine w_aload_n (q := 59) (i := 0) (j := 0) hc dX2_staysTurned_58 rfl rfl rfl ?_
      refine gf_X2_9 (q := 62) hc dX2_staysTurned_59 (k_6 hK) rfl ?_
      refine w_callS_Rl (q := 65) (st := [.ref 15]) (args := [.long q_6, .long (L 7 (ix v3_5)), .int (I 6 0)]) hc (m_X6_conjugate hK hR) dX2_staysTurned_62 ml_X2_176 cf_X6_conjugate st_X6_conjugate rfl rfl (Nat.le_of_ble_eq_true rfl) ⟨Nat.le_of_ble_eq_true rfl, Nat.le_of_ble_eq_true rfl⟩ rfl (fun q_7 => ?_)
      refine w_callV_Rz (q := 68) (st := []) (args := [.long q_7]) (p := 15) hc (m_X0_contains hK hR (ch_15)) dX2_staysTurned_65 ml_X2_167 cf_X0_contains iv_X0_contains (k_15 hK) (C := RX0) (T := TX0) (N := 8) rfl rfl (Nat.lt_of_succ_le (Nat.le_of_ble_eq_true rfl)) rfl rfl (Nat.le_of_ble_eq_true rfl) ⟨Nat.le_of_ble_eq_true rfl, Nat.le_of_ble_eq_true rfl⟩ rfl (fun q_8 => ?_)
      refine w_ifne (q := 71) (tgt := 73) hc dX2_staysTurned_68 rfl rfl ?_ ?_
      · refine w_iconst (q := 72) hc dX2_staysTurned_71 ci_0 rfl ?_
        exact w_ireturn (v := b2i false) hc hq dX2_staysTurned_72 (nar_b2i false) rfl rfl
      · refine w_iincB (q := 76) (i := 3) (j := 2) (lv' := fun v3_9 => [(3, .int v3_9), (0, .ref 6), (2, .int v2_4)]) hc dX2_staysTurned_73 rfl ci_1 (hN 3 rfl) (fun _ => rfl) rfl (fun v3_9 => ?_)
        refine w_goto (tgt := 32) hc dX2_staysTurned_76 rfl ?_
        refine w_sub [1, 2, 0] rfl ?_
        exact ih v3_9
set_option maxRecDepth 100000 in
set_option maxHeartbeats 4000000 in
theorem wl_X2_staysTurned_19 {G : GT (Bool × Mm)} {rm : Nat} (I : MI) (L : ML) (hc : Cx G cX2_staysTurned yX2_staysTurned.cls (some .boolean) 5 137) (hq : RetQ G anZW meW) (hK : gK G = lK rm) (hR : gR G = lR rm) (hn : gnL G = 4) : ∀ (n : Nat) (v2_2 : Int32), WW G 19 [(0, .ref 6), (2, .int v2_2)] [] I L (f_X2_staysTurned_19 I L n v2_2) := by
  have hN : ∀ i, Nat.blt i 4 = true → i < gnL G := fun i h => hn ▸ Nat.blt_eq.mp h
  intro n
  induction n with
  | zero => intros; exact w_none _ _ _
  | succ n ih =>
    intros v2_2
    rw [f_X2_staysTurned_19]
    refine w_iload_n (q := 20) (i := 2) (j := 1) hc dX2_staysTurned_19 rfl rfl rfl ?_
    refine w_aload_n (q := 21) (i := 0) (j := 0) hc dX2_staysTurned_20 rfl rfl rfl ?_
    refine gf_X2_32 (q := 24) hc dX2_staysTurned_21 (k_6 hK) (r_6_5 hR) rfl ?_
    refine w_callV_Ri (q := 27) (st := [.int v2_2]) (args := []) (p := 15) hc (m_X0_countMakers hK hR (ch_15)) dX2_staysTurned_24 ml_X2_170 cf_X0_countMakers iv_X0_countMakers (k_15 hK) (C := RX0) (T := TX0) (N := 8) rfl rfl (Nat.lt_of_succ_le (Nat.le_of_ble_eq_true rfl)) rfl rfl (Nat.le_of_ble_eq_true rfl) ⟨Nat.le_of_ble_eq_true rfl, Nat.le_of_ble_eq_true rfl⟩ rfl (fun q_3 => ?_)
    refine w_icmpge (q := 30) (tgt := 85) hc dX2_staysTurned_27 rfl rfl ?_ ?_
    · refine w_iconst (q := 86) hc dX2_staysTurned_85 ci_1 rfl ?_
      exact w_ireturn (v := b2i true) hc hq dX2_staysTurned_86 (nar_b2i true) rfl rfl
    · refine w_iconst (q := 31) hc dX2_staysTurned_30 ci_0 rfl ?_
      refine w_istore_n (q := 32) (i := 3) (lv' := [(3, .int 0), (0, .ref 6), (2, .int v2_2)]) hc dX2_staysTurned_31 rfl (hN 3 rfl) rfl rfl ?_
      refine w_sub [1, 2, 0] rfl ?_
      refine wl_X2_staysTurned_32 v2_2 I L hc hq hK hR hn _ ?_ FU 0
      refine w_iincB (q := 82) (i := 2) (j := 1) (lv' := fun v2_10 => [(2, .int v2_10), (0, .ref 6)]) hc dX2_staysTurned_79 rfl ci_1 (hN 2 rfl) (fun _ => rfl) rfl (fun v2_10 => ?_)
      refine w_goto (tgt := 19) hc dX2_staysTurned_82 rfl ?_
      refine w_sub [1, 0] rfl ?_
      exact ih v2_10
set_option maxRecDepth 100000 in
set_option maxHeartbeats 4000000 in
theorem m_X2_staysTurned {l : Launch} {K : KT} {R : MR} {rm : Nat} {a1 : Int32} {I : MI} {L : ML} (hK0 : K = lK rm) (hR0 : R = lR rm) : MFg l yX2_staysTurned cX2_staysTurned 4 (some .boolean) 5 137 [.ref 6, .int a1] K R I L anZW meW (f_X2_staysTurned a1 I L) := by
  refine mf_of (plainFor_of_name (by decide)) (Nat.le_of_ble_eq_true rfl) ?_
  intro G hc _ hK1 hR1 hn hq
  have hK := hK1.trans hK0
  have hR := hR1.trans hR0
  have hN : ∀ i, Nat.blt i 4 = true → i < gnL G := fun i h => hn ▸ Nat.blt_eq.mp h
  unfold f_X2_staysTurned
  show WW G 0 [(0, .ref 6), (1, .int a1)] [] I L _
  refine w_aload_n (q := 1) (i := 0) (j := 0) hc dX2_staysTurned_0 rfl rfl rfl ?_
  refine gf_X2_32 (q := 4) hc dX2_staysTurned_1 (k_6 hK) (r_6_5 hR) rfl ?_
  refine w_aload_n (q := 5) (i := 0) (j := 0) hc dX2_staysTurned_4 rfl rfl rfl ?_
  refine gf_X2_18 (q := 8) hc dX2_staysTurned_5 (k_6 hK) (r_6_2 hR) rfl ?_
  refine w_iload_n (q := 9) (i := 1) (j := 1) hc dX2_staysTurned_8 rfl rfl rfl ?_
  refine w_aload_n (q := 10) (i := 0) (j := 0) hc dX2_staysTurned_9 rfl rfl rfl ?_
  refine gf_X2_9 (q := 13) hc dX2_staysTurned_10 (k_6 hK) rfl ?_
  refine w_callV_Wi (q := 16) (st := []) (args := [.ref 7, .int a1, .int (I 6 0)]) (p := 15) hc (m_X0_gather hK hR (ch_15) (kB hK (k_7 hK))) dX2_staysTurned_13 ml_X2_79 cf_X0_gather iv_X0_gather (k_15 hK) (C := RX0) (T := TX0) (N := 8) rfl rfl (Nat.lt_of_succ_le (Nat.le_of_ble_eq_true rfl)) rfl rfl (Nat.le_of_ble_eq_true rfl) ⟨Nat.le_of_ble_eq_true rfl, Nat.le_of_ble_eq_true rfl⟩ rfl (fun q_1 => ?_)
  refine w_pop_int (q := 17) hc dX2_staysTurned_16  rfl ?_
  refine w_iconst (q := 18) hc dX2_staysTurned_17 ci_0 rfl ?_
  refine w_istore_n (q := 19) (i := 2) (lv' := [(2, .int 0), (0, .ref 6), (1, .int a1)]) hc dX2_staysTurned_18 rfl (hN 2 rfl) rfl rfl ?_
  refine w_sub [1, 0] rfl ?_
  exact wl_X2_staysTurned_19 q_1.2.1 q_1.2.2 hc hq hK hR hn FU 0
set_option maxRecDepth 100000 in
set_option maxHeartbeats 4000000 in
theorem wl_X2_spareMoves_4 {G : GT (Int32 × Mm)} {rm : Nat} (hc : Cx G cX2_spareMoves yX2_spareMoves.cls (some .int) 6 159) (hq : RetQ G anIW meW) (hK : gK G = lK rm) (hR : gR G = lR rm) (hn : gnL G = 3) : ∀ (n : Nat) (v1_1 : Int32) (v2_2 : Int32) (I_3 : MI) (L_4 : ML), WW G 4 [(0, .ref 6), (1, .int v1_1), (2, .int v2_2)] [] I_3 L_4 (f_X2_spareMoves_4 n v1_1 v2_2 I_3 L_4) := by
  have hN : ∀ i, Nat.blt i 3 = true → i < gnL G := fun i h => hn ▸ Nat.blt_eq.mp h
  intro n
  induction n with
  | zero => intros; exact w_none _ _ _
  | succ n ih =>
    intros v1_1 v2_2 I_3 L_4
    rw [f_X2_spareMoves_4]
    refine w_iload_n (q := 5) (i := 2) (j := 2) hc dX2_spareMoves_4 rfl rfl rfl ?_
    refine w_aload_n (q := 6) (i := 0) (j := 0) hc dX2_spareMoves_5 rfl rfl rfl ?_
    refine gf_X2_15 (q := 9) hc dX2_spareMoves_6 (k_6 hK) rfl ?_
    refine w_icmpge (q := 12) (tgt := 45) hc dX2_spareMoves_9 rfl rfl ?_ ?_
    · refine w_iload_n (q := 46) (i := 1) (j := 1) hc dX2_spareMoves_45 rfl rfl rfl ?_
      exact w_ireturn (v := v1_1) hc hq dX2_spareMoves_46 rfl rfl rfl
    · refine w_aload_n (q := 13) (i := 0) (j := 0) hc dX2_spareMoves_12 rfl rfl rfl ?_
      refine w_aload_n (q := 14) (i := 0) (j := 0) hc dX2_spareMoves_13 rfl rfl rfl ?_
      refine w_callV_Ri (q := 17) (st := [.ref 6]) (args := []) (p := 6) hc (m_X2_everyMove hK hR) dX2_spareMoves_14 ml_X2_75 cf_X2_everyMove iv_X2_everyMove (k_6 hK) (C := RX2) (T := TX2) (N := 13) rfl rfl (Nat.lt_of_succ_le (Nat.le_of_ble_eq_true rfl)) rfl rfl (Nat.le_of_ble_eq_true rfl) ⟨Nat.le_of_ble_eq_true rfl, Nat.le_of_ble_eq_true rfl⟩ rfl (fun q_5 => ?_)
      refine w_iconst (q := 18) hc dX2_spareMoves_17 ci_1 rfl ?_
      refine w_iload_n (q := 19) (i := 2) (j := 2) hc dX2_spareMoves_18 rfl rfl rfl ?_
      refine w_ishl (q := 20) hc dX2_spareMoves_19  rfl ?_
      refine w_iconst (q := 21) hc dX2_spareMoves_20 ci_m1 rfl ?_
      refine w_ixor (q := 22) hc dX2_spareMoves_21  rfl ?_
      refine w_iand (q := 23) hc dX2_spareMoves_22  rfl ?_
      refine w_callV_Wi (q := 26) (st := []) (args := [.int (q_5 &&& ((shl 1 v2_2) ^^^ (-1)))]) (p := 6) hc (m_X2_sizeBy hK hR) dX2_spareMoves_23 ml_X2_180 cf_X2_sizeBy iv_X2_sizeBy (k_6 hK) (C := RX2) (T := TX2) (N := 13) rfl rfl (Nat.lt_of_succ_le (Nat.le_of_ble_eq_true rfl)) rfl rfl (Nat.le_of_ble_eq_true rfl) ⟨Nat.le_of_ble_eq_true rfl, Nat.le_of_ble_eq_true rfl⟩ rfl (fun q_6 => ?_)
      refine w_aload_n (q := 27) (i := 0) (j := 0) hc dX2_spareMoves_26 rfl rfl rfl ?_
      refine w_callV_Ri (q := 30) (st := [.int q_6.1]) (args := []) (p := 6) hc (m_X2_size hK hR) dX2_spareMoves_27 ml_X2_183 cf_X2_size iv_X2_size (k_6 hK) (C := RX2) (T := TX2) (N := 13) rfl rfl (Nat.lt_of_succ_le (Nat.le_of_ble_eq_true rfl)) rfl rfl (Nat.le_of_ble_eq_true rfl) ⟨Nat.le_of_ble_eq_true rfl, Nat.le_of_ble_eq_true rfl⟩ rfl (fun q_7 => ?_)
      refine w_icmpne (q := 33) (tgt := 39) hc dX2_spareMoves_30 rfl rfl ?_ ?_
      · refine w_iload_n (q := 34) (i := 1) (j := 1) hc dX2_spareMoves_33 rfl rfl rfl ?_
        refine w_iconst (q := 35) hc dX2_spareMoves_34 ci_1 rfl ?_
        refine w_iload_n (q := 36) (i := 2) (j := 2) hc dX2_spareMoves_35 rfl rfl rfl ?_
        refine w_ishl (q := 37) hc dX2_spareMoves_36  rfl ?_
        refine w_ior (q := 38) hc dX2_spareMoves_37  rfl ?_
        refine w_istore_nB (q := 39) (i := 1) (lv' := fun v1_9 => [(1, .int v1_9), (0, .ref 6), (2, .int v2_2)]) hc dX2_spareMoves_38 rfl (hN 1 rfl) (fun _ => rfl) rfl (fun v1_9 => ?_)
        refine w_iincB (q := 42) (i := 2) (j := 2) (lv' := fun v2_10 => [(2, .int v2_10), (1, .int v1_9), (0, .ref 6)]) hc dX2_spareMoves_39 rfl ci_1 (hN 2 rfl) (fun _ => rfl) rfl (fun v2_10 => ?_)
        refine w_goto (tgt := 4) hc dX2_spareMoves_42 rfl ?_
        refine w_sub [2, 1, 0] rfl ?_
        exact ih v1_9 v2_10 q_6.2.1 q_6.2.2
      · refine w_iincB (q := 42) (i := 2) (j := 2) (lv' := fun v2_8 => [(2, .int v2_8), (0, .ref 6), (1, .int v1_1)]) hc dX2_spareMoves_39 rfl ci_1 (hN 2 rfl) (fun _ => rfl) rfl (fun v2_8 => ?_)
        refine w_goto (tgt := 4) hc dX2_spareMoves_42 rfl ?_
        refine w_sub [1, 2, 0] rfl ?_
        exact ih v1_1 v2_8 q_6.2.1 q_6.2.2
set_option maxRecDepth 100000 in
set_option maxHeartbeats 4000000 in
theorem m_X2_spareMoves {l : Launch} {K : KT} {R : MR} {rm : Nat} {I : MI} {L : ML} (hK0 : K = lK rm) (hR0 : R = lR rm) : MFg l yX2_spareMoves cX2_spareMoves 3 (some .int) 6 159 [.ref 6] K R I L anIW meW (f_X2_spareMoves I L) := by
  refine mf_of (plainFor_of_name (by decide)) (Nat.le_of_ble_eq_true rfl) ?_
  intro G hc _ hK1 hR1 hn hq
  have hK := hK1.trans hK0
  have hR := hR1.trans hR0
  have hN : ∀ i, Nat.blt i 3 = true → i < gnL G := fun i h => hn ▸ Nat.blt_eq.mp h
  unfold f_X2_spareMoves
  show WW G 0 [(0, .ref 6)] [] I L _
  refine w_iconst (q := 1) hc dX2_spareMoves_0 ci_0 rfl ?_
  refine w_istore_n (q := 2) (i := 1) (lv' := [(1, .int 0), (0, .ref 6)]) hc dX2_spareMoves_1 rfl (hN 1 rfl) rfl rfl ?_
  refine w_iconst (q := 3) hc dX2_spareMoves_2 ci_0 rfl ?_
  refine w_istore_n (q := 4) (i := 2) (lv' := [(2, .int 0), (1, .int 0), (0, .ref 6)]) hc dX2_spareMoves_3 rfl (hN 2 rfl) rfl rfl ?_
  refine w_sub [2, 1, 0] rfl ?_
  exact wl_X2_spareMoves_4 hc hq hK hR hn FU 0 0 I L
set_option maxRecDepth 100000 in
set_option maxHeartbeats 4000000 in
theorem wl_X2_fewestMoves_29 {G : GT (Int32 × Mm)} {rm : Nat} (v2_9 : Int32) (v3_10 : Int32) (v4_11 : Int32) (hc : Cx G cX2_fewestMoves yX2_fewestMoves.cls (some .int) 6 159) (hq : RetQ G anIW meW) (hK : gK G = lK rm) (hR : gR G = lR rm) (hn : gnL G = 6) (k0 : MI → ML → Option (Int32 × Mm)) (hk0 : ∀ (I_21 : MI) (L_22 : ML), WW G 75 [(0, .ref 6), (2, .int v2_9), (3, .int v3_10), (4, .int v4_11)] [] I_21 L_22 (k0 I_21 L_22)) : ∀ (n : Nat) (v5_12 : Int32) (I_13 : MI) (L_14 : ML), WW G 29 [(0, .ref 6), (2, .int v2_9), (3, .int v3_10), (4, .int v4_11), (5, .int v5_12)] [] I_13 L_14 (f_X2_fewestMoves_29 v2_9 v3_10 v4_11 k0 n v5_12 I_13 L_14) := by
  have hN : ∀ i, Nat.blt i 6 = true → i < gnL G := fun i h => hn ▸ Nat.blt_eq.mp h
  intro n
  induction n with
  | zero => intros; exact w_none _ _ _
  | succ n ih =>
    intros v5_12 I_13 L_14
    rw [f_X2_fewestMoves_29]
    refine w_iload (q := 31) (i := 5) (j := 4) hc dX2_fewestMoves_29 rfl rfl ?_
    refine w_iload_n (q := 32) (i := 2) (j := 1) hc dX2_fewestMoves_31 rfl rfl rfl ?_
    refine w_icmpgt (q := 35) (tgt := 75) hc dX2_fewestMoves_32 rfl rfl ?_ ?_
    · refine w_sub [0, 1, 2, 3] rfl ?_
      exact hk0 I_13 L_14
    · refine w_iload (q := 37) (i := 5) (j := 4) hc dX2_fewestMoves_35 rfl rfl ?_
      refine w_callS_Ri (q := 40) (st := []) (args := [.int v5_12]) hc (m_J6_bitCount_0f7a4 hK hR) dX2_fewestMoves_37 ml_X2_184 cf_J6_bitCount_0f7a4 st_J6_bitCount_0f7a4 rfl rfl (Nat.le_of_ble_eq_true rfl) ⟨Nat.le_of_ble_eq_true rfl, Nat.le_of_ble_eq_true rfl⟩ rfl (fun q_15 => ?_)
      refine w_iload (q := 42) (i := 4) (j := 3) hc dX2_fewestMoves_40 rfl rfl ?_
      refine w_icmpne (q := 45) (tgt := 69) hc dX2_fewestMoves_42 rfl rfl ?_ ?_
      · refine w_iload (q := 47) (i := 5) (j := 4) hc dX2_fewestMoves_45 rfl rfl ?_
        refine w_iload_n (q := 48) (i := 3) (j := 2) hc dX2_fewestMoves_47 rfl rfl rfl ?_
        refine w_iand (q := 49) hc dX2_fewestMoves_48  rfl ?_
        refine w_iload_n (q := 50) (i := 3) (j := 2) hc dX2_fewestMoves_49 rfl rfl rfl ?_
        refine w_icmpne (q := 53) (tgt := 69) hc dX2_fewestMoves_50 rfl rfl ?_ ?_
        · refine w_aload_n (q := 54) (i := 0) (j := 0) hc dX2_fewestMoves_53 rfl rfl rfl ?_
          refine w_iload (q := 56) (i := 5) (j := 4) hc dX2_fewestMoves_54 rfl rfl ?_
          refine w_callV_Wi (q := 59) (st := []) (args := [.int v5_12]) (p := 6) hc (m_X2_sizeBy hK hR) dX2_fewestMoves_56 ml_X2_180 cf_X2_sizeBy iv_X2_sizeBy (k_6 hK) (C := RX2) (T := TX2) (N := 13) rfl rfl (Nat.lt_of_succ_le (Nat.le_of_ble_eq_true rfl)) rfl rfl (Nat.le_of_ble_eq_true rfl) ⟨Nat.le_of_ble_eq_true rfl, Nat.le_of_ble_eq_true rfl⟩ rfl (fun q_18 => ?_)
          refine w_aload_n (q := 60) (i := 0) (j := 0) hc dX2_fewestMoves_59 rfl rfl rfl ?_
          refine w_callV_Ri (q := 63) (st := [.int q_18.1]) (args := []) (p := 6) hc (m_X2_size hK hR) dX2_fewestMoves_60 ml_X2_183 cf_X2_size iv_X2_size (k_6 hK) (C := RX2) (T := TX2) (N := 13) rfl rfl (Nat.lt_of_succ_le (Nat.le_of_ble_eq_true rfl)) rfl rfl (Nat.le_of_ble_eq_true rfl) ⟨Nat.le_of_ble_eq_true rfl, Nat.le_of_ble_eq_true rfl⟩ rfl (fun q_19 => ?_)
          refine w_icmpne (q := 66) (tgt := 69) hc dX2_fewestMoves_63 rfl rfl ?_ ?_
          · refine w_iload (q := 68) (i := 5) (j := 4) hc dX2_fewestMoves_66 rfl rfl ?_
            exact w_ireturn (v := v5_12) hc hq dX2_fewestMoves_68 rfl rfl rfl
          · refine w_iincB (q := 72) (i := 5) (j := 4) (lv' := fun v5_20 => [(5, .int v5_20), (0, .ref 6), (2, .int v2_9), (3, .int v3_10), (4, .int v4_11)]) hc dX2_fewestMoves_69 rfl ci_1 (hN 5 rfl) (fun _ => rfl) rfl (fun v5_20 => ?_)
            refine w_goto (tgt := 29) hc dX2_fewestMoves_72 rfl ?_
            refine w_sub [1, 2, 3, 4, 0] rfl ?_
            exact ih v5_20 q_18.2.1 q_18.2.2
        · refine w_iincB (q := 72) (i := 5) (j := 4) (lv' := fun v5_17 => [(5, .int v5_17), (0, .ref 6), (2, .int v2_9), (3, .int v3_10), (4, .int v4_11)]) hc dX2_fewestMoves_69 rfl ci_1 (hN 5 rfl) (fun _ => rfl) rfl (fun v5_17 => ?_)
          refine w_goto (tgt := 29) hc dX2_fewestMoves_72 rfl ?_
          refine w_sub [1, 2, 3, 4, 0] rfl ?_
          exact ih v5_17 I_13 L_14
      · refine w_iincB (q := 72) (i := 5) (j := 4) (lv' := fun v5_16 => [(5, .int v5_16), (0, .ref 6), (2, .int v2_9), (3, .int v3_10), (4, .int v4_11)]) hc dX2_fewestMoves_69 rfl ci_1 (hN 5 rfl) (fun _ => rfl) rfl (fun v5_16 => ?_)
        refine w_goto (tgt := 29) hc dX2_fewestMoves_72 rfl ?_
        refine w_sub [1, 2, 3, 4, 0] rfl ?_
        exact ih v5_16 I_13 L_14
set_option maxRecDepth 100000 in
set_option maxHeartbeats 4000000 in
theorem wl_X2_fewestMoves_17 {G : GT (Int32 × Mm)} {rm : Nat} (v2_4 : Int32) (v3_5 : Int32) (hc : Cx G cX2_fewestMoves yX2_fewestMoves.cls (some .int) 6 159) (hq : RetQ G anIW meW) (hK : gK G = lK rm) (hR : gR G = lR rm) (hn : gnL G = 6) : ∀ (n : Nat) (v4_6 : Int32) (I_7 : MI) (L_8 : ML), WW G 17 [(0, .ref 6), (2, .int v2_4), (3, .int v3_5), (4, .int v4_6)] [] I_7 L_8 (f_X2_fewestMoves_17 v2_4 v3_5 n v4_6 I_7 L_8) := by
  have hN : ∀ i, Nat.blt i 6 = true → i < gnL G := fun i h => hn ▸ Nat.blt_eq.mp h
  intro n
  induction n with
  | zero => intros; exact w_none _ _ _
  | succ n ih =>
    intros v4_6 I_7 L_8
    rw [f_X2_fewestMoves_17]
    refine w_iload (q := 19) (i := 4) (j := 3) hc dX2_fewestMoves_17 rfl rfl ?_
    refine w_aload_n (q := 20) (i := 0) (j := 0) hc dX2_fewestMoves_19 rfl rfl rfl ?_
    refine gf_X2_15 (q := 23) hc dX2_fewestMoves_20 (k_6 hK) rfl ?_
    refine w_icmpge (q := 26) (tgt := 81) hc dX2_fewestMoves_23 rfl rfl ?_ ?_
    · refine w_iload_n (q := 82) (i := 2) (j := 1) hc dX2_fewestMoves_81 rfl rfl rfl ?_
      exact w_ireturn (v := v2_4) hc hq dX2_fewestMoves_82 rfl rfl rfl
    · refine w_iload_n (q := 27) (i := 3) (j := 2) hc dX2_fewestMoves_26 rfl rfl rfl ?_
      refine w_istore (q := 29) (i := 5) (lv' := [(5, .int v3_5), (0, .ref 6), (2, .int v2_4), (3, .int v3_5), (4, .int v4_6)]) hc dX2_fewestMoves_27 (hN 5 rfl) rfl rfl ?_
      refine w_sub [1, 2, 3, 4, 0] rfl ?_
      refine wl_X2_fewestMoves_29 v2_4 v3_5 v4_6 hc hq hK hR hn _ ?_ FU v3_5 I_7 L_8
      intro I_21 L_22
      refine w_iincB (q := 78) (i := 4) (j := 3) (lv' := fun v4_23 => [(4, .int v4_23), (0, .ref 6), (2, .int v2_4), (3, .int v3_5)]) hc dX2_fewestMoves_75 rfl ci_1 (hN 4 rfl) (fun _ => rfl) rfl (fun v4_23 => ?_)
      refine w_goto (tgt := 17) hc dX2_fewestMoves_78 rfl ?_
      refine w_sub [1, 2, 3, 0] rfl ?_
      exact ih v4_23 I_21 L_22
set_option maxRecDepth 100000 in
set_option maxHeartbeats 4000000 in
theorem m_X2_fewestMoves {l : Launch} {K : KT} {R : MR} {rm : Nat} {a1 : Int32} {I : MI} {L : ML} (hK0 : K = lK rm) (hR0 : R = lR rm) : MFg l yX2_fewestMoves cX2_fewestMoves 6 (some .int) 6 159 [.ref 6, .int a1] K R I L anIW meW (f_X2_fewestMoves a1 I L) := by
  refine mf_of (plainFor_of_name (by decide)) (Nat.le_of_ble_eq_true rfl) ?_
  intro G hc _ hK1 hR1 hn hq
  have hK := hK1.trans hK0
  have hR := hR1.trans hR0
  have hN : ∀ i, Nat.blt i 6 = true → i < gnL G := fun i h => hn ▸ Nat.blt_eq.mp h
  unfold f_X2_fewestMoves
  show WW G 0 [(0, .ref 6), (1, .int a1)] [] I L _
  refine w_aload_n (q := 1) (i := 0) (j := 0) hc dX2_fewestMoves_0 rfl rfl rfl ?_
  refine w_callV_Ri (q := 4) (st := []) (args := []) (p := 6) hc (m_X2_everyMove hK hR) dX2_fewestMoves_1 ml_X2_75 cf_X2_everyMove iv_X2_everyMove (k_6 hK) (C := RX2) (T := TX2) (N := 13) rfl rfl (Nat.lt_of_succ_le (Nat.le_of_ble_eq_true rfl)) rfl rfl (Nat.le_of_ble_eq_true rfl) ⟨Nat.le_of_ble_eq_true rfl, Nat.le_of_ble_eq_true rfl⟩ rfl (fun q_1 => ?_)
  refine w_istore_n (q := 5) (i := 2) (lv' := [(2, .int q_1), (0, .ref 6), (1, .int a1)]) hc dX2_fewestMoves_4 rfl (hN 2 rfl) rfl rfl ?_
  refine w_iload_n (q := 6) (i := 2) (j := 0) hc dX2_fewestMoves_5 rfl rfl rfl ?_
  refine w_iload_n (q := 7) (i := 1) (j := 2) hc dX2_fewestMoves_6 rfl rfl rfl ?_
  refine w_iconst (q := 8) hc dX2_fewestMoves_7 ci_m1 rfl ?_
  refine w_ixor (q := 9) hc dX2_fewestMoves_8  rfl ?_
  refine w_iand (q := 10) hc dX2_fewestMoves_9  rfl ?_
  refine w_istore_nB (q := 11) (i := 3) (lv' := fun v3_2 => [(3, .int v3_2), (2, .int q_1), (0, .ref 6), (1, .int a1)]) hc dX2_fewestMoves_10 rfl (hN 3 rfl) (fun _ => rfl) rfl (fun v3_2 => ?_)
  refine w_iload_n (q := 12) (i := 3) (j := 0) hc dX2_fewestMoves_11 rfl rfl rfl ?_
  refine w_callS_Ri (q := 15) (st := []) (args := [.int v3_2]) hc (m_J6_bitCount_0f7a4 hK hR) dX2_fewestMoves_12 ml_X2_184 cf_J6_bitCount_0f7a4 st_J6_bitCount_0f7a4 rfl rfl (Nat.le_of_ble_eq_true rfl) ⟨Nat.le_of_ble_eq_true rfl, Nat.le_of_ble_eq_true rfl⟩ rfl (fun q_3 => ?_)
  refine w_istore (q := 17) (i := 4) (lv' := [(4, .int q_3), (3, .int v3_2), (2, .int q_1), (0, .ref 6), (1, .int a1)]) hc dX2_fewestMoves_15 (hN 4 rfl) rfl rfl ?_
  refine w_sub [3, 2, 1, 0] rfl ?_
  exact wl_X2_fewestMoves_17 q_1 v3_2 hc hq hK hR hn FU q_3 I L
set_option maxRecDepth 100000 in
set_option maxHeartbeats 4000000 in
theorem wl_X2_countHolding_112 {G : GT (Int32 × Mm)} {rm : Nat} (v2_20 : Int64) (v4_21 : Int32) (hc : Cx G cX2_countHolding yX2_countHolding.cls (some .int) 4 112) (hq : RetQ G anIW meW) (hK : gK G = lK rm) (hR : gR G = lR rm) (hn : gnL G = 9) (k0 : MI → ML → Option (Int32 × Mm)) (hk0 : ∀ (I_29 : MI) (L_30 : ML), WW G 162 [(0, .ref 6), (4, .int v4_21)] [] I_29 L_30 (k0 I_29 L_30)) : ∀ (n : Nat) (v7_22 : Int32) (I_23 : MI) (L_24 : ML), WW G 112 [(0, .ref 6), (2, .long v2_20), (4, .int v4_21), (7, .int v7_22)] [] I_23 L_24 (f_X2_countHolding_112 v2_20 v4_21 k0 n v7_22 I_23 L_24) := by
  have hN : ∀ i, Nat.blt i 9 = true → i < gnL G := fun i h => hn ▸ Nat.blt_eq.mp h
  intro n
  induction n with
  | zero => intros; exact w_none _ _ _
  | succ n ih =>
    intros v7_22 I_23 L_24
    rw [f_X2_countHolding_112]
    refine w_iload (q := 114) (i := 7) (j := 3) hc dX2_countHolding_112 rfl rfl ?_
    refine w_aload_n (q := 115) (i := 0) (j := 0) hc dX2_countHolding_114 rfl rfl rfl ?_
    refine gf_X2_15 (q := 118) hc dX2_countHolding_115 (k_6 hK) rfl ?_
    refine w_icmpge (q := 121) (tgt := 162) hc dX2_countHolding_118 rfl rfl ?_ ?_
    · refine w_sub [0, 2] rfl ?_
      exact hk0 I_23 L_24
    · refine w_aload_n (q := 122) (i := 0) (j := 0) hc dX2_countHolding_121 rfl rfl rfl ?_
      refine gf_X2_29 (q := 125) hc dX2_countHolding_122 (k_6 hK) rfl ?_
      refine w_iload (q := 127) (i := 7) (j := 3) hc dX2_countHolding_125 rfl rfl ?_
      refine w_ishr (q := 128) hc dX2_countHolding_127  rfl ?_
      refine w_iconst (q := 129) hc dX2_countHolding_128 ci_1 rfl ?_
      refine w_iand (q := 130) hc dX2_countHolding_129  rfl ?_
      refine w_ifeq (q := 133) (tgt := 156) hc dX2_countHolding_130 rfl rfl ?_ ?_
      · refine w_iincB (q := 159) (i := 7) (j := 3) (lv' := fun v7_25 => [(7, .int v7_25), (0, .ref 6), (2, .long v2_20), (4, .int v4_21)]) hc dX2_countHolding_156 rfl ci_1 (hN 7 rfl) (fun _ => rfl) rfl (fun v7_25 => ?_)
        refine w_goto (tgt := 112) hc dX2_countHolding_159 rfl ?_
        refine w_sub [1, 2, 3, 0] rfl ?_
        exact ih v7_25 I_23 L_24
      · refine w_aload_n (q := 134) (i := 0) (j := 0) hc dX2_countHolding_133 rfl rfl rfl ?_
        refine gf_X2_32 (q := 137) hc dX2_countHolding_134 (k_6 hK) (r_6_5 hR) rfl ?_
        refine w_aload_n (q := 138) (i := 0) (j := 0) hc dX2_countHolding_137 rfl rfl rfl ?_
        refine gf_X2_18 (q := 141) hc dX2_countHolding_138 (k_6 hK) (r_6_2 hR) rfl ?_
        refine w_iload (q := 143) (i := 7) (j := 3) hc dX2_countHolding_141 rfl rfl ?_
        refine w_lald (q := 144) hc dX2_countHolding_143 (k_7 hK) rfl ?_
        refine w_lload_n (q := 145) (i := 2) (j := 1) hc dX2_countHolding_144 rfl rfl rfl ?_
        refine w_aload_n (q := 146) (i := 0) (j := 0) hc dX2_countHolding_145 rfl rfl rfl ?_
        refine gf_X2_9 (q := 149) hc dX2_countHolding_146 (k_6 hK) rfl ?_
        refine w_callS_Rl (q := 152) (st := [.ref 15]) (args := [.long (L_24 7 (ix v7_22)), .long v2_20, .int (I_23 6 0)]) hc (m_X6_conjugate hK hR) dX2_countHolding_149 ml_X2_176 cf_X6_conjugate st_X6_conjugate rfl rfl (Nat.le_of_ble_eq_true rfl) ⟨Nat.le_of_ble_eq_true rfl, Nat.le_of_ble_eq_true rfl⟩ rfl (fun q_26 => ?_)
        refine w_callV_Wz (q := 155) (st := []) (args := [.long q_26]) (p := 15) hc (m_X0_grow hK hR (ch_15)) dX2_countHolding_152 ml_X2_196 cf_X0_grow iv_X0_grow (k_15 hK) (C := RX0) (T := TX0) (N := 8) rfl rfl (Nat.lt_of_succ_le (Nat.le_of_ble_eq_true rfl)) rfl rfl (Nat.le_of_ble_eq_true rfl) ⟨Nat.le_of_ble_eq_true rfl, Nat.le_of_ble_eq_true rfl⟩ rfl (fun q_27 => ?_)
        refine w_pop_int (q := 156) hc dX2_countHolding_155  rfl ?_
        refine w_iincB (q := 159) (i := 7) (j := 3) (lv' := fun v7_28 => [(7, .int v7_28), (0, .ref 6), (2, .long v2_20), (4, .int v4_21)]) hc dX2_countHolding_156 rfl ci_1 (hN 7 rfl) (fun _ => rfl) rfl (fun v7_28 => ?_)
        refine w_goto (tgt := 112) hc dX2_countHolding_159 rfl ?_
        refine w_sub [1, 2, 3, 0] rfl ?_
        exact ih v7_28 q_27.2.1 q_27.2.2
set_option maxRecDepth 100000 in
set_option maxHeartbeats 4000000 in
theorem wl_X2_countHolding_18 {G : GT (Int32 × Mm)} {rm : Nat} (v1_2 : Int32) (v4_4 : Int32) (I : MI) (L : ML) (hc : Cx G cX2_countHolding yX2_countHolding.cls (some .int) 4 112) (hq : RetQ G anIW meW) (hK : gK G = lK rm) (hR : gR G = lR rm) (hn : gnL G = 9) (k0 : Int64 → Option (Int32 × Mm)) (hk0 : ∀ (v2_18 : Int64), WW G 98 [(0, .ref 6), (2, .long v2_18), (4, .int v4_4)] [] I L (k0 v2_18)) : ∀ (n : Nat) (v2_3 : Int64) (v5_5 : Int32) (v6_6 : Int32) (v7_7 : Int32), WW G 18 [(0, .ref 6), (1, .int v1_2), (2, .long v2_3), (4, .int v4_4), (5, .int v5_5), (6, .int v6_6), (7, .int v7_7)] [] I L (f_X2_countHolding_18 v1_2 v4_4 I L k0 n v2_3 v5_5 v6_6 v7_7) := by
  have hN : ∀ i, Nat.blt i 9 = true → i < gnL G := fun i h => hn ▸ Nat.blt_eq.mp h
  intro n
  induction n with
  | zero => intros; exact w_none _ _ _
  | succ n ih =>
    intros v2_3 v5_5 v6_6 v7_7
    rw [f_X2_countHolding_18]
    refine w_iload (q := 20) (i := 7) (j := 6) hc dX2_countHolding_18 rfl rfl ?_
    refine w_aload_n (q := 21) (i := 0) (j := 0) hc dX2_countHolding_20 rfl rfl rfl ?_
    refine gf_X2_9 (q := 24) hc dX2_countHolding_21 (k_6 hK) rfl ?_
    refine w_icmpge (q := 27) (tgt := 98) hc dX2_countHolding_24 rfl rfl ?_ ?_
    · refine w_sub [0, 2, 3] rfl ?_
      exact hk0 v2_3
    · refine w_iload_n (q := 28) (i := 1) (j := 1) hc dX2_countHolding_27 rfl rfl rfl ?_
      refine w_iload (q := 30) (i := 7) (j := 6) hc dX2_countHolding_28 rfl rfl ?_
      refine w_ishr (q := 31) hc dX2_countHolding_30  rfl ?_
      refine w_iconst (q := 32) hc dX2_countHolding_31 ci_1 rfl ?_
      refine w_iand (q := 33) hc dX2_countHolding_32  rfl ?_
      refine w_join (fun j41_159 : Bool → Option (Int32 × Mm) => ∀ (s0_8 : Bool), WW G 41 [(0, .ref 6), (1, .int v1_2), (2, .long v2_3), (4, .int v4_4), (5, .int v5_5), (6, .int v6_6), (7, .int v7_7)] [.int (b2i s0_8)] I L (j41_159 s0_8)) ?_ ?_
      · intro s0_8
        refine w_istoreB (q := 43) (i := 8) (lv' := fun v8_9 => [(8, .int v8_9), (0, .ref 6), (1, .int v1_2), (2, .long v2_3), (4, .int v4_4), (5, .int v5_5), (6, .int v6_6), (7, .int v7_7)]) hc dX2_countHolding_41 (hN 8 rfl) (fun _ => rfl) rfl (fun v8_9 => ?_)
        refine w_lload_n (q := 44) (i := 2) (j := 3) hc dX2_countHolding_43 rfl rfl rfl ?_
        refine w_iload (q := 46) (i := 7) (j := 7) hc dX2_countHolding_44 rfl rfl ?_
        refine w_iload (q := 48) (i := 8) (j := 0) hc dX2_countHolding_46 rfl rfl ?_
        refine w_join (fun j58_160 : Int32 → Option (Int32 × Mm) => ∀ (s0_10 : Int32), WW G 58 [(0, .ref 6), (1, .int v1_2), (4, .int v4_4), (5, .int v5_5), (6, .int v6_6), (7, .int v7_7), (8, .int v8_9)] [.int s0_10, .int v7_7, .long v2_3] I L (j58_160 s0_10)) ?_ ?_
        · intro s0_10
          refine w_callS_Rl (q := 61) (st := []) (args := [.long v2_3, .int v7_7, .int s0_10]) hc (m_X6_with hK hR) dX2_countHolding_58 ml_X2_189 cf_X6_with st_X6_with rfl rfl (Nat.le_of_ble_eq_true rfl) ⟨Nat.le_of_ble_eq_true rfl, Nat.le_of_ble_eq_true rfl⟩ rfl (fun q_11 => ?_)
          refine w_lstore_n (q := 62) (i := 2) (lv' := [(2, .long q_11), (0, .ref 6), (1, .int v1_2), (4, .int v4_4), (5, .int v5_5), (6, .int v6_6), (7, .int v7_7), (8, .int v8_9)]) hc dX2_countHolding_61 rfl (hN 3 rfl) rfl rfl ?_
          refine w_iload (q := 64) (i := 5) (j := 4) hc dX2_countHolding_62 rfl rfl ?_
          refine w_iload (q := 66) (i := 8) (j := 7) hc dX2_countHolding_64 rfl rfl ?_
          refine w_join (fun j74_161 : Bool → Option (Int32 × Mm) => ∀ (s0_12 : Bool), WW G 74 [(0, .ref 6), (1, .int v1_2), (2, .long q_11), (4, .int v4_4), (6, .int v6_6), (7, .int v7_7), (8, .int v8_9)] [.int (b2i s0_12), .int v5_5] I L (j74_161 s0_12)) ?_ ?_
          · intro s0_12
            refine w_iadd (q := 75) hc dX2_countHolding_74  rfl ?_
            refine w_istoreB (q := 77) (i := 5) (lv' := fun v5_13 => [(5, .int v5_13), (0, .ref 6), (1, .int v1_2), (2, .long q_11), (4, .int v4_4), (6, .int v6_6), (7, .int v7_7), (8, .int v8_9)]) hc dX2_countHolding_75 (hN 5 rfl) (fun _ => rfl) rfl (fun v5_13 => ?_)
            refine w_iload (q := 79) (i := 6) (j := 5) hc dX2_countHolding_77 rfl rfl ?_
            refine w_iload (q := 81) (i := 8) (j := 7) hc dX2_countHolding_79 rfl rfl ?_
            refine w_ifeq (q := 84) (tgt := 88) hc dX2_countHolding_81 rfl rfl ?_ ?_
            · refine w_iconst (q := 89) hc dX2_countHolding_88 ci_1 rfl ?_
              refine w_iadd (q := 90) hc dX2_countHolding_89  rfl ?_
              refine w_istoreB (q := 92) (i := 6) (lv' := fun v6_14 => [(6, .int v6_14), (5, .int v5_13), (0, .ref 6), (1, .int v1_2), (2, .long q_11), (4, .int v4_4), (7, .int v7_7), (8, .int v8_9)]) hc dX2_countHolding_90 (hN 6 rfl) (fun _ => rfl) rfl (fun v6_14 => ?_)
              refine w_iincB (q := 95) (i := 7) (j := 6) (lv' := fun v7_15 => [(7, .int v7_15), (6, .int v6_14), (5, .int v5_13), (0, .ref 6), (1, .int v1_2), (2, .long q_11), (4, .int v4_4), (8, .int v8_9)]) hc dX2_countHolding_92 rfl ci_1 (hN 7 rfl) (fun _ => rfl) rfl (fun v7_15 => ?_)
              refine w_goto (tgt := 18) hc dX2_countHolding_95 rfl ?_
              refine w_sub [3, 4, 5, 6, 2, 1, 0] rfl ?_
              exact ih q_11 v5_13 v6_14 v7_15
            · refine w_iconst (q := 85) hc dX2_countHolding_84 ci_0 rfl ?_
              refine w_goto (tgt := 89) hc dX2_countHolding_85 rfl ?_
              refine w_iadd (q := 90) hc dX2_countHolding_89  rfl ?_
              refine w_istoreB (q := 92) (i := 6) (lv' := fun v6_16 => [(6, .int v6_16), (5, .int v5_13), (0, .ref 6), (1, .int v1_2), (2, .long q_11), (4, .int v4_4), (7, .int v7_7), (8, .int v8_9)]) hc dX2_countHolding_90 (hN 6 rfl) (fun _ => rfl) rfl (fun v6_16 => ?_)
              refine w_iincB (q := 95) (i := 7) (j := 6) (lv' := fun v7_17 => [(7, .int v7_17), (6, .int v6_16), (5, .int v5_13), (0, .ref 6), (1, .int v1_2), (2, .long q_11), (4, .int v4_4), (8, .int v8_9)]) hc dX2_countHolding_92 rfl ci_1 (hN 7 rfl) (fun _ => rfl) rfl (fun v7_17 => ?_)
              refine w_goto (tgt := 18) hc dX2_countHolding_95 rfl ?_
              refine w_sub [3, 4, 5, 6, 2, 1, 0] rfl ?_
              exact ih q_11 v5_13 v6_16 v7_17
          · intro j74_161 hj74_161
            refine w_ifeq (q := 69) (tgt := 73) hc dX2_countHolding_66 rfl rfl ?_ ?_
            · refine w_iconst (q := 74) hc dX2_countHolding_73 ci_0 rfl ?_
              refine w_sub [1, 2, 0, 3, 5, 6, 7] rfl ?_
              exact hj74_161 false
            · refine w_iconst (q := 70) hc dX2_countHolding_69 ci_1 rfl ?_
              refine w_goto (tgt := 74) hc dX2_countHolding_70 rfl ?_
              refine w_sub [1, 2, 0, 3, 5, 6, 7] rfl ?_
              exact hj74_161 true
        · intro j58_160 hj58_160
          refine w_ifeq (q := 51) (tgt := 56) hc dX2_countHolding_48 rfl rfl ?_ ?_
          · refine w_iload (q := 58) (i := 6) (j := 6) hc dX2_countHolding_56 rfl rfl ?_
            refine w_sub [1, 2, 4, 5, 6, 7, 0] rfl ?_
            exact hj58_160 v6_6
          · refine w_iload (q := 53) (i := 5) (j := 5) hc dX2_countHolding_51 rfl rfl ?_
            refine w_goto (tgt := 58) hc dX2_countHolding_53 rfl ?_
            refine w_sub [1, 2, 4, 5, 6, 7, 0] rfl ?_
            exact hj58_160 v5_5
      · intro j41_159 hj41_159
        refine w_ifeq (q := 36) (tgt := 40) hc dX2_countHolding_33 rfl rfl ?_ ?_
        · refine w_iconst (q := 41) hc dX2_countHolding_40 ci_0 rfl ?_
          exact hj41_159 false
        · refine w_iconst (q := 37) hc dX2_countHolding_36 ci_1 rfl ?_
          refine w_goto (tgt := 41) hc dX2_countHolding_37 rfl ?_
          exact hj41_159 true
set_option maxRecDepth 100000 in
set_option maxHeartbeats 4000000 in
theorem m_X2_countHolding {l : Launch} {K : KT} {R : MR} {rm : Nat} {a1 : Int32} {I : MI} {L : ML} (hK0 : K = lK rm) (hR0 : R = lR rm) : MFg l yX2_countHolding cX2_countHolding 9 (some .int) 4 112 [.ref 6, .int a1] K R I L anIW meW (f_X2_countHolding a1 I L) := by
  refine mf_of (plainFor_of_name (by decide)) (Nat.le_of_ble_eq_true rfl) ?_
  intro G hc _ hK1 hR1 hn hq
  have hK := hK1.trans hK0
  have hR := hR1.trans hR0
  have hN : ∀ i, Nat.blt i 9 = true → i < gnL G := fun i h => hn ▸ Nat.blt_eq.mp h
  unfold f_X2_countHolding
  show WW G 0 [(0, .ref 6), (1, .int a1)] [] I L _
  refine w_lconst (q := 1) hc dX2_countHolding_0 cl_0 rfl ?_
  refine w_lstore_n (q := 2) (i := 2) (lv' := [(2, .long 0), (0, .ref 6), (1, .int a1)]) hc dX2_countHolding_1 rfl (hN 3 rfl) rfl rfl ?_
  refine w_iload_n (q := 3) (i := 1) (j := 2) hc dX2_countHolding_2 rfl rfl rfl ?_
  refine w_callS_Ri (q := 6) (st := []) (args := [.int a1]) hc (m_J6_bitCount_0f7a4 hK hR) dX2_countHolding_3 ml_X2_184 cf_J6_bitCount_0f7a4 st_J6_bitCount_0f7a4 rfl rfl (Nat.le_of_ble_eq_true rfl) ⟨Nat.le_of_ble_eq_true rfl, Nat.le_of_ble_eq_true rfl⟩ rfl (fun q_1 => ?_)
  refine w_istore (q := 8) (i := 4) (lv' := [(4, .int q_1), (2, .long 0), (0, .ref 6), (1, .int a1)]) hc dX2_countHolding_6 (hN 4 rfl) rfl rfl ?_
  refine w_iconst (q := 9) hc dX2_countHolding_8 ci_0 rfl ?_
  refine w_istore (q := 11) (i := 5) (lv' := [(5, .int 0), (4, .int q_1), (2, .long 0), (0, .ref 6), (1, .int a1)]) hc dX2_countHolding_9 (hN 5 rfl) rfl rfl ?_
  refine w_iload (q := 13) (i := 4) (j := 1) hc dX2_countHolding_11 rfl rfl ?_
  refine w_istore (q := 15) (i := 6) (lv' := [(6, .int q_1), (5, .int 0), (4, .int q_1), (2, .long 0), (0, .ref 6), (1, .int a1)]) hc dX2_countHolding_13 (hN 6 rfl) rfl rfl ?_
  refine w_iconst (q := 16) hc dX2_countHolding_15 ci_0 rfl ?_
  refine w_istore (q := 18) (i := 7) (lv' := [(7, .int 0), (6, .int q_1), (5, .int 0), (4, .int q_1), (2, .long 0), (0, .ref 6), (1, .int a1)]) hc dX2_countHolding_16 (hN 7 rfl) rfl rfl ?_
  refine w_sub [5, 6, 4, 3, 2, 1, 0] rfl ?_
  refine wl_X2_countHolding_18 a1 q_1 I L hc hq hK hR hn _ ?_ FU 0 0 q_1 0
  intro v2_18
  refine w_aload_n (q := 99) (i := 0) (j := 0) hc dX2_countHolding_98 rfl rfl rfl ?_
  refine gf_X2_32 (q := 102) hc dX2_countHolding_99 (k_6 hK) (r_6_5 hR) rfl ?_
  refine w_aload_n (q := 103) (i := 0) (j := 0) hc dX2_countHolding_102 rfl rfl rfl ?_
  refine gf_X2_9 (q := 106) hc dX2_countHolding_103 (k_6 hK) rfl ?_
  refine w_callV_Wv (q := 109) (st := []) (args := [.int (I 6 0)]) (p := 15) hc (m_X0_start hK hR (ch_15)) dX2_countHolding_106 ml_X2_193 cf_X0_start iv_X0_start (k_15 hK) (C := RX0) (T := TX0) (N := 8) rfl rfl (Nat.lt_of_succ_le (Nat.le_of_ble_eq_true rfl)) rfl rfl (Nat.le_of_ble_eq_true rfl) ⟨Nat.le_of_ble_eq_true rfl, Nat.le_of_ble_eq_true rfl⟩ rfl (fun q_19 => ?_)
  refine w_iconst (q := 110) hc dX2_countHolding_109 ci_0 rfl ?_
  refine w_istore (q := 112) (i := 7) (lv' := [(7, .int 0), (0, .ref 6), (2, .long v2_18), (4, .int q_1)]) hc dX2_countHolding_110 (hN 7 rfl) rfl rfl ?_
  refine w_sub [1, 2, 3, 0] rfl ?_
  refine wl_X2_countHolding_112 v2_18 q_1 hc hq hK hR hn _ ?_ FU 0 q_19.1 q_19.2
  intro I_29 L_30
  refine w_aload_n (q := 163) (i := 0) (j := 0) hc dX2_countHolding_162 rfl rfl rfl ?_
  refine gf_X2_32 (q := 166) hc dX2_countHolding_163 (k_6 hK) (r_6_5 hR) rfl ?_
  refine w_iload (q := 168) (i := 4) (j := 1) hc dX2_countHolding_166 rfl rfl ?_
  refine w_callV_Ri (q := 171) (st := []) (args := [.int q_1]) (p := 15) hc (m_X0_sizeFrom hK hR (ch_15)) dX2_countHolding_168 ml_X2_199 cf_X0_sizeFrom iv_X0_sizeFrom (k_15 hK) (C := RX0) (T := TX0) (N := 8) rfl rfl (Nat.lt_of_succ_le (Nat.le_of_ble_eq_true rfl)) rfl rfl (Nat.le_of_ble_eq_true rfl) ⟨Nat.le_of_ble_eq_true rfl, Nat.le_of_ble_eq_true rfl⟩ rfl (fun q_31 => ?_)
  exact w_ireturn (v := q_31) hc hq dX2_countHolding_171 rfl rfl rfl
