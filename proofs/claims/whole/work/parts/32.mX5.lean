set_option maxRecDepth 100000 in
set_option maxHeartbeats 4000000 in
theorem m_X5_hasRoom {l : Launch} {K : KT} {R : MR} {rm : Nat} {a1 : Int32} {I : MI} {L : ML} (hK0 : K = lK rm) (hR0 : R = lR rm) : MFg l yX5_hasRoom cX5_hasRoom 2 (some .boolean) 0 0 [.ref 1, .int a1] K R I L anZ (meR I L) (f_X5_hasRoom a1 I L) := by
  refine mf_of (plainFor_of_name (by decide)) (Nat.le_of_ble_eq_true rfl) ?_
  intro G hc _ hK1 hR1 hn hq
  have hK := hK1.trans hK0
  have hR := hR1.trans hR0
  have hN : ∀ i, Nat.blt i 2 = true → i < gnL G := fun i h => hn ▸ Nat.blt_eq.mp h
  unfold f_X5_hasRoom
  show WW G 0 [(0, .ref 1), (1, .int a1)] [] I L _
  refine w_aload_n (q := 1) (i := 0) (j := 0) hc dX5_hasRoom_0 rfl rfl rfl ?_
  refine gf_X5_15 (q := 4) hc dX5_hasRoom_1 (k_1 hK) rfl ?_
  refine w_iload_n (q := 5) (i := 1) (j := 1) hc dX5_hasRoom_4 rfl rfl rfl ?_
  refine w_iadd (q := 6) hc dX5_hasRoom_5  rfl ?_
  refine w_sipush (q := 9) hc dX5_hasRoom_6 cs_400 rfl ?_
  refine w_icmpgt (q := 12) (tgt := 16) hc dX5_hasRoom_9 rfl rfl ?_ ?_
  · refine w_iconst (q := 17) hc dX5_hasRoom_16 ci_0 rfl ?_
    exact w_ireturn (v := b2i false) hc hq dX5_hasRoom_17 (nar_b2i false) rfl rfl
  · refine w_iconst (q := 13) hc dX5_hasRoom_12 ci_1 rfl ?_
    refine w_goto (tgt := 17) hc dX5_hasRoom_13 rfl ?_
    exact w_ireturn (v := b2i true) hc hq dX5_hasRoom_17 (nar_b2i true) rfl rfl
set_option maxRecDepth 100000 in
set_option maxHeartbeats 4000000 in
theorem wl_X5_append_3 {G : GT Mm} {rm : Nat} (v1_1 : Int32) (L : ML) (hc : Cx G cX5_append yX5_append.cls none 0 0) (hq : RetQ G anV meV) (hK : gK G = lK rm) (hR : gR G = lR rm) (hn : gnL G = 3) : ∀ (n : Nat) (v2_2 : Int32) (I_3 : MI), WW G 3 [(0, .ref 1), (1, .int v1_1), (2, .int v2_2)] [] I_3 L (f_X5_append_3 v1_1 L n v2_2 I_3) := by
  have hN : ∀ i, Nat.blt i 3 = true → i < gnL G := fun i h => hn ▸ Nat.blt_eq.mp h
  intro n
  induction n with
  | zero => intros; exact w_none _ _ _
  | succ n ih =>
    intros v2_2 I_3
    rw [f_X5_append_3]
    refine w_iload_n (q := 4) (i := 2) (j := 2) hc dX5_append_3 rfl rfl rfl ?_
    refine w_iflt (q := 7) (tgt := 46) hc dX5_append_4 rfl rfl ?_ ?_
    · exact w_return hc hq dX5_append_46 rfl rfl
    · refine w_aload_n (q := 8) (i := 0) (j := 0) hc dX5_append_7 rfl rfl rfl ?_
      refine gf_X5_15 (q := 11) hc dX5_append_8 (k_1 hK) rfl ?_
      refine w_sipush (q := 14) hc dX5_append_11 cs_400 rfl ?_
      refine w_icmpge (q := 17) (tgt := 46) hc dX5_append_14 rfl rfl ?_ ?_
      · exact w_return hc hq dX5_append_46 rfl rfl
      · refine w_aload_n (q := 18) (i := 0) (j := 0) hc dX5_append_17 rfl rfl rfl ?_
        refine gf_X5_11 (q := 21) hc dX5_append_18 (k_1 hK) (r_1_0 hR) rfl ?_
        refine w_aload_n (q := 22) (i := 0) (j := 0) hc dX5_append_21 rfl rfl rfl ?_
        refine gf_X5_15 (q := 25) hc dX5_append_22 (k_1 hK) rfl ?_
        refine w_iload_n (q := 26) (i := 1) (j := 1) hc dX5_append_25 rfl rfl rfl ?_
        refine w_iload_n (q := 27) (i := 2) (j := 2) hc dX5_append_26 rfl rfl rfl ?_
        refine w_iushr (q := 28) hc dX5_append_27  rfl ?_
        refine w_i2b (q := 29) hc dX5_append_28  rfl ?_
        refine w_bast (q := 30) hc dX5_append_29 (k_2 hK) rfl (fun I_4 => ?_)
        refine w_aload_n (q := 31) (i := 0) (j := 0) hc dX5_append_30 rfl rfl rfl ?_
        refine w_dup_ref (q := 32) hc dX5_append_31  rfl ?_
        refine gf_X5_15 (q := 35) hc dX5_append_32 (k_1 hK) rfl ?_
        refine w_iconst (q := 36) hc dX5_append_35 ci_1 rfl ?_
        refine w_iadd (q := 37) hc dX5_append_36  rfl ?_
        refine pf_X5_15 (q := 40) hc dX5_append_37 (k_1 hK) rfl (fun I_5 => ?_)
        refine w_iincB (q := 43) (i := 2) (j := 2) (lv' := fun v2_6 => [(2, .int v2_6), (0, .ref 1), (1, .int v1_1)]) hc dX5_append_40 rfl ci_m8 (hN 2 rfl) (fun _ => rfl) rfl (fun v2_6 => ?_)
        refine w_goto (tgt := 3) hc dX5_append_43 rfl ?_
        refine w_sub [1, 2, 0] rfl ?_
        exact ih v2_6 I_5
set_option maxRecDepth 100000 in
set_option maxHeartbeats 4000000 in
theorem m_X5_append {l : Launch} {K : KT} {R : MR} {rm : Nat} {a1 : Int32} {I : MI} {L : ML} (hK0 : K = lK rm) (hR0 : R = lR rm) : MFg l yX5_append cX5_append 3 none 0 0 [.ref 1, .int a1] K R I L anV meV (f_X5_append a1 I L) := by
  refine mf_of (plainFor_of_name (by decide)) (Nat.le_of_ble_eq_true rfl) ?_
  intro G hc _ hK1 hR1 hn hq
  have hK := hK1.trans hK0
  have hR := hR1.trans hR0
  have hN : ∀ i, Nat.blt i 3 = true → i < gnL G := fun i h => hn ▸ Nat.blt_eq.mp h
  unfold f_X5_append
  show WW G 0 [(0, .ref 1), (1, .int a1)] [] I L _
  refine w_bipush (q := 2) hc dX5_append_0 cb_24 rfl ?_
  refine w_istore_n (q := 3) (i := 2) (lv' := [(2, .int 24), (0, .ref 1), (1, .int a1)]) hc dX5_append_2 rfl (hN 2 rfl) rfl rfl ?_
  refine w_sub [1, 2, 0] rfl ?_
  exact wl_X5_append_3 a1 L hc hq hK hR hn FU 24 I
set_option maxRecDepth 100000 in
set_option maxHeartbeats 4000000 in
theorem m_X5_isLetter {l : Launch} {K : KT} {R : MR} {rm : Nat} {a0 : Int32} {I : MI} {L : ML} (hK0 : K = lK rm) (hR0 : R = lR rm) : MFg l yX5_isLetter cX5_isLetter 1 (some .boolean) 0 0 [.int a0] K R I L anZ (meR I L) (f_X5_isLetter a0) := by
  refine mf_of (plainFor_of_name (by decide)) (Nat.le_of_ble_eq_true rfl) ?_
  intro G hc _ hK1 hR1 hn hq
  have hK := hK1.trans hK0
  have hR := hR1.trans hR0
  have hN : ∀ i, Nat.blt i 1 = true → i < gnL G := fun i h => hn ▸ Nat.blt_eq.mp h
  unfold f_X5_isLetter
  show WW G 0 [(0, .int a0)] [] I L _
  refine w_iload_n (q := 1) (i := 0) (j := 0) hc dX5_isLetter_0 rfl rfl rfl ?_
  refine w_bipush (q := 3) hc dX5_isLetter_1 cb_97 rfl ?_
  refine w_icmplt (q := 6) (tgt := 16) hc dX5_isLetter_3 rfl rfl ?_ ?_
  · refine w_iconst (q := 17) hc dX5_isLetter_16 ci_0 rfl ?_
    exact w_ireturn (v := b2i false) hc hq dX5_isLetter_17 (nar_b2i false) rfl rfl
  · refine w_iload_n (q := 7) (i := 0) (j := 0) hc dX5_isLetter_6 rfl rfl rfl ?_
    refine w_bipush (q := 9) hc dX5_isLetter_7 cb_122 rfl ?_
    refine w_icmpgt (q := 12) (tgt := 16) hc dX5_isLetter_9 rfl rfl ?_ ?_
    · refine w_iconst (q := 17) hc dX5_isLetter_16 ci_0 rfl ?_
      exact w_ireturn (v := b2i false) hc hq dX5_isLetter_17 (nar_b2i false) rfl rfl
    · refine w_iconst (q := 13) hc dX5_isLetter_12 ci_1 rfl ?_
      refine w_goto (tgt := 17) hc dX5_isLetter_13 rfl ?_
      exact w_ireturn (v := b2i true) hc hq dX5_isLetter_17 (nar_b2i true) rfl rfl
set_option maxRecDepth 100000 in
set_option maxHeartbeats 4000000 in
theorem m_X5_isDigit {l : Launch} {K : KT} {R : MR} {rm : Nat} {a0 : Int32} {I : MI} {L : ML} (hK0 : K = lK rm) (hR0 : R = lR rm) : MFg l yX5_isDigit cX5_isDigit 1 (some .boolean) 0 0 [.int a0] K R I L anZ (meR I L) (f_X5_isDigit a0) := by
  refine mf_of (plainFor_of_name (by decide)) (Nat.le_of_ble_eq_true rfl) ?_
  intro G hc _ hK1 hR1 hn hq
  have hK := hK1.trans hK0
  have hR := hR1.trans hR0
  have hN : ∀ i, Nat.blt i 1 = true → i < gnL G := fun i h => hn ▸ Nat.blt_eq.mp h
  unfold f_X5_isDigit
  show WW G 0 [(0, .int a0)] [] I L _
  refine w_iload_n (q := 1) (i := 0) (j := 0) hc dX5_isDigit_0 rfl rfl rfl ?_
  refine w_bipush (q := 3) hc dX5_isDigit_1 cb_48 rfl ?_
  refine w_icmplt (q := 6) (tgt := 16) hc dX5_isDigit_3 rfl rfl ?_ ?_
  · refine w_iconst (q := 17) hc dX5_isDigit_16 ci_0 rfl ?_
    exact w_ireturn (v := b2i false) hc hq dX5_isDigit_17 (nar_b2i false) rfl rfl
  · refine w_iload_n (q := 7) (i := 0) (j := 0) hc dX5_isDigit_6 rfl rfl rfl ?_
    refine w_bipush (q := 9) hc dX5_isDigit_7 cb_57 rfl ?_
    refine w_icmpgt (q := 12) (tgt := 16) hc dX5_isDigit_9 rfl rfl ?_ ?_
    · refine w_iconst (q := 17) hc dX5_isDigit_16 ci_0 rfl ?_
      exact w_ireturn (v := b2i false) hc hq dX5_isDigit_17 (nar_b2i false) rfl rfl
    · refine w_iconst (q := 13) hc dX5_isDigit_12 ci_1 rfl ?_
      refine w_goto (tgt := 17) hc dX5_isDigit_13 rfl ?_
      exact w_ireturn (v := b2i true) hc hq dX5_isDigit_17 (nar_b2i true) rfl rfl
set_option maxRecDepth 100000 in
set_option maxHeartbeats 4000000 in
theorem wl_X5_scanNumber_5 {G : GT Mm} {rm : Nat} (L : ML) (hc : Cx G cX5_scanNumber yX5_scanNumber.cls none 1 20) (hq : RetQ G anV meV) (hK : gK G = lK rm) (hR : gR G = lR rm) (hn : gnL G = 1) (k0 : MI → Option Mm) (hk0 : ∀ (I_6 : MI), WW G 68 [(0, .ref 1)] [] I_6 L (k0 I_6)) : ∀ (n : Nat) (I_2 : MI), WW G 5 [(0, .ref 1)] [] I_2 L (f_X5_scanNumber_5 L k0 n I_2) := by
  have hN : ∀ i, Nat.blt i 1 = true → i < gnL G := fun i h => hn ▸ Nat.blt_eq.mp h
  intro n
  induction n with
  | zero => intros; exact w_none _ _ _
  | succ n ih =>
    intros I_2
    rw [f_X5_scanNumber_5]
    refine w_aload_n (q := 6) (i := 0) (j := 0) hc dX5_scanNumber_5 rfl rfl rfl ?_
    refine gf_X5_22 (q := 9) hc dX5_scanNumber_6 (k_1 hK) rfl ?_
    refine w_aload_n (q := 10) (i := 0) (j := 0) hc dX5_scanNumber_9 rfl rfl rfl ?_
    refine gf_X5_19 (q := 13) hc dX5_scanNumber_10 (k_1 hK) rfl ?_
    refine w_icmpge (q := 16) (tgt := 68) hc dX5_scanNumber_13 rfl rfl ?_ ?_
    · exact hk0 I_2
    · refine w_aload_n (q := 17) (i := 0) (j := 0) hc dX5_scanNumber_16 rfl rfl rfl ?_
      refine gf_X5_11 (q := 20) hc dX5_scanNumber_17 (k_1 hK) (r_1_0 hR) rfl ?_
      refine w_aload_n (q := 21) (i := 0) (j := 0) hc dX5_scanNumber_20 rfl rfl rfl ?_
      refine gf_X5_22 (q := 24) hc dX5_scanNumber_21 (k_1 hK) rfl ?_
      refine w_bald (q := 25) hc dX5_scanNumber_24 (k_2 hK) rfl ?_
      refine w_callS_Rz (q := 28) (st := []) (args := [.int (I_2 2 (ix (I_2 1 3)))]) hc (m_X5_isDigit hK hR) dX5_scanNumber_25 ml_X5_87 cf_X5_isDigit st_X5_isDigit rfl rfl (Nat.le_of_ble_eq_true rfl) ⟨Nat.le_of_ble_eq_true rfl, Nat.le_of_ble_eq_true rfl⟩ rfl (fun q_3 => ?_)
      refine w_ifeq (q := 31) (tgt := 68) hc dX5_scanNumber_28 rfl rfl ?_ ?_
      · exact hk0 I_2
      · refine w_aload_n (q := 32) (i := 0) (j := 0) hc dX5_scanNumber_31 rfl rfl rfl ?_
        refine w_aload_n (q := 33) (i := 0) (j := 0) hc dX5_scanNumber_32 rfl rfl rfl ?_
        refine gf_X5_31 (q := 36) hc dX5_scanNumber_33 (k_1 hK) rfl ?_
        refine w_bipush (q := 38) hc dX5_scanNumber_36 cb_10 rfl ?_
        refine w_imul (q := 39) hc dX5_scanNumber_38  rfl ?_
        refine w_aload_n (q := 40) (i := 0) (j := 0) hc dX5_scanNumber_39 rfl rfl rfl ?_
        refine gf_X5_11 (q := 43) hc dX5_scanNumber_40 (k_1 hK) (r_1_0 hR) rfl ?_
        refine w_aload_n (q := 44) (i := 0) (j := 0) hc dX5_scanNumber_43 rfl rfl rfl ?_
        refine gf_X5_22 (q := 47) hc dX5_scanNumber_44 (k_1 hK) rfl ?_
        refine w_bald (q := 48) hc dX5_scanNumber_47 (k_2 hK) rfl ?_
        refine w_iadd (q := 49) hc dX5_scanNumber_48  rfl ?_
        refine w_bipush (q := 51) hc dX5_scanNumber_49 cb_48 rfl ?_
        refine w_isub (q := 52) hc dX5_scanNumber_51  rfl ?_
        refine pf_X5_31 (q := 55) hc dX5_scanNumber_52 (k_1 hK) rfl (fun I_4 => ?_)
        refine w_aload_n (q := 56) (i := 0) (j := 0) hc dX5_scanNumber_55 rfl rfl rfl ?_
        refine w_dup_ref (q := 57) hc dX5_scanNumber_56  rfl ?_
        refine gf_X5_22 (q := 60) hc dX5_scanNumber_57 (k_1 hK) rfl ?_
        refine w_iconst (q := 61) hc dX5_scanNumber_60 ci_1 rfl ?_
        refine w_iadd (q := 62) hc dX5_scanNumber_61  rfl ?_
        refine pf_X5_22 (q := 65) hc dX5_scanNumber_62 (k_1 hK) rfl (fun I_5 => ?_)
        refine w_goto (tgt := 5) hc dX5_scanNumber_65 rfl ?_
        exact ih I_5
set_option maxRecDepth 100000 in
set_option maxHeartbeats 4000000 in
theorem m_X5_scanNumber {l : Launch} {K : KT} {R : MR} {rm : Nat} {I : MI} {L : ML} (hK0 : K = lK rm) (hR0 : R = lR rm) : MFg l yX5_scanNumber cX5_scanNumber 1 none 1 20 [.ref 1] K R I L anV meV (f_X5_scanNumber I L) := by
  refine mf_of (plainFor_of_name (by decide)) (Nat.le_of_ble_eq_true rfl) ?_
  intro G hc _ hK1 hR1 hn hq
  have hK := hK1.trans hK0
  have hR := hR1.trans hR0
  have hN : ∀ i, Nat.blt i 1 = true → i < gnL G := fun i h => hn ▸ Nat.blt_eq.mp h
  unfold f_X5_scanNumber
  show WW G 0 [(0, .ref 1)] [] I L _
  refine w_aload_n (q := 1) (i := 0) (j := 0) hc dX5_scanNumber_0 rfl rfl rfl ?_
  refine w_iconst (q := 2) hc dX5_scanNumber_1 ci_0 rfl ?_
  refine pf_X5_31 (q := 5) hc dX5_scanNumber_2 (k_1 hK) rfl (fun I_1 => ?_)
  refine wl_X5_scanNumber_5 L hc hq hK hR hn _ ?_ FU I_1
  intro I_6
  refine w_aload_n (q := 69) (i := 0) (j := 0) hc dX5_scanNumber_68 rfl rfl rfl ?_
  refine w_aload_n (q := 70) (i := 0) (j := 0) hc dX5_scanNumber_69 rfl rfl rfl ?_
  refine gf_X5_22 (q := 73) hc dX5_scanNumber_70 (k_1 hK) rfl ?_
  refine w_aload_n (q := 74) (i := 0) (j := 0) hc dX5_scanNumber_73 rfl rfl rfl ?_
  refine gf_X5_28 (q := 77) hc dX5_scanNumber_74 (k_1 hK) rfl ?_
  refine w_isub (q := 78) hc dX5_scanNumber_77  rfl ?_
  refine w_iconst (q := 79) hc dX5_scanNumber_78 ci_2 rfl ?_
  refine w_icmpgt (q := 82) (tgt := 86) hc dX5_scanNumber_79 rfl rfl ?_ ?_
  · refine w_iconst (q := 87) hc dX5_scanNumber_86 ci_3 rfl ?_
    refine pf_X5_25 (q := 90) hc dX5_scanNumber_87 (k_1 hK) rfl (fun I_7 => ?_)
    exact w_return hc hq dX5_scanNumber_90 rfl rfl
  · refine w_iconst (q := 83) hc dX5_scanNumber_82 ci_2 rfl ?_
    refine w_goto (tgt := 87) hc dX5_scanNumber_83 rfl ?_
    refine pf_X5_25 (q := 90) hc dX5_scanNumber_87 (k_1 hK) rfl (fun I_8 => ?_)
    exact w_return hc hq dX5_scanNumber_90 rfl rfl
set_option maxRecDepth 100000 in
set_option maxHeartbeats 4000000 in
theorem m_X5_isSign {l : Launch} {K : KT} {R : MR} {rm : Nat} {a0 : Int32} {I : MI} {L : ML} (hK0 : K = lK rm) (hR0 : R = lR rm) : MFg l yX5_isSign cX5_isSign 1 (some .boolean) 0 0 [.int a0] K R I L anZ (meR I L) (f_X5_isSign a0) := by
  refine mf_of (plainFor_of_name (by decide)) (Nat.le_of_ble_eq_true rfl) ?_
  intro G hc _ hK1 hR1 hn hq
  have hK := hK1.trans hK0
  have hR := hR1.trans hR0
  have hN : ∀ i, Nat.blt i 1 = true → i < gnL G := fun i h => hn ▸ Nat.blt_eq.mp h
  unfold f_X5_isSign
  show WW G 0 [(0, .int a0)] [] I L _
  refine w_iload_n (q := 1) (i := 0) (j := 0) hc dX5_isSign_0 rfl rfl rfl ?_
  refine w_bipush (q := 3) hc dX5_isSign_1 cb_40 rfl ?_
  refine w_icmpeq (q := 6) (tgt := 24) hc dX5_isSign_3 rfl rfl ?_ ?_
  · refine w_iconst (q := 25) hc dX5_isSign_24 ci_1 rfl ?_
    refine w_goto (tgt := 29) hc dX5_isSign_25 rfl ?_
    exact w_ireturn (v := b2i true) hc hq dX5_isSign_29 (nar_b2i true) rfl rfl
  · refine w_iload_n (q := 7) (i := 0) (j := 0) hc dX5_isSign_6 rfl rfl rfl ?_
    refine w_bipush (q := 9) hc dX5_isSign_7 cb_41 rfl ?_
    refine w_icmpeq (q := 12) (tgt := 24) hc dX5_isSign_9 rfl rfl ?_ ?_
    · refine w_iconst (q := 25) hc dX5_isSign_24 ci_1 rfl ?_
      refine w_goto (tgt := 29) hc dX5_isSign_25 rfl ?_
      exact w_ireturn (v := b2i true) hc hq dX5_isSign_29 (nar_b2i true) rfl rfl
    · refine w_iload_n (q := 13) (i := 0) (j := 0) hc dX5_isSign_12 rfl rfl rfl ?_
      refine w_bipush (q := 15) hc dX5_isSign_13 cb_39 rfl ?_
      refine w_icmpeq (q := 18) (tgt := 24) hc dX5_isSign_15 rfl rfl ?_ ?_
      · refine w_iconst (q := 25) hc dX5_isSign_24 ci_1 rfl ?_
        refine w_goto (tgt := 29) hc dX5_isSign_25 rfl ?_
        exact w_ireturn (v := b2i true) hc hq dX5_isSign_29 (nar_b2i true) rfl rfl
      · refine w_iload_n (q := 19) (i := 0) (j := 0) hc dX5_isSign_18 rfl rfl rfl ?_
        refine w_bipush (q := 21) hc dX5_isSign_19 cb_59 rfl ?_
        refine w_icmpne (q := 24) (tgt := 28) hc dX5_isSign_21 rfl rfl ?_ ?_
        · refine w_iconst (q := 25) hc dX5_isSign_24 ci_1 rfl ?_
          refine w_goto (tgt := 29) hc dX5_isSign_25 rfl ?_
          exact w_ireturn (v := b2i true) hc hq dX5_isSign_29 (nar_b2i true) rfl rfl
        · refine w_iconst (q := 29) hc dX5_isSign_28 ci_0 rfl ?_
          exact w_ireturn (v := b2i false) hc hq dX5_isSign_29 (nar_b2i false) rfl rfl
set_option maxRecDepth 100000 in
set_option maxHeartbeats 4000000 in
theorem wl_X5_scan_94 {G : GT Mm} {rm : Nat} (L : ML) (hc : Cx G cX5_scan yX5_scan.cls none 2 40) (hq : RetQ G anV meV) (hK : gK G = lK rm) (hR : gR G = lR rm) (hn : gnL G = 2) (k0 : MI → Option Mm) (hk0 : ∀ (I_17 : MI), WW G 133 [(0, .ref 1)] [] I_17 L (k0 I_17)) : ∀ (n : Nat) (I_14 : MI), WW G 94 [(0, .ref 1)] [] I_14 L (f_X5_scan_94 L k0 n I_14) := by
  have hN : ∀ i, Nat.blt i 2 = true → i < gnL G := fun i h => hn ▸ Nat.blt_eq.mp h
  intro n
  induction n with
  | zero => intros; exact w_none _ _ _
  | succ n ih =>
    intros I_14
    rw [f_X5_scan_94]
    refine w_aload_n (q := 95) (i := 0) (j := 0) hc dX5_scan_94 rfl rfl rfl ?_
    refine gf_X5_22 (q := 98) hc dX5_scan_95 (k_1 hK) rfl ?_
    refine w_aload_n (q := 99) (i := 0) (j := 0) hc dX5_scan_98 rfl rfl rfl ?_
    refine gf_X5_19 (q := 102) hc dX5_scan_99 (k_1 hK) rfl ?_
    refine w_icmpge (q := 105) (tgt := 133) hc dX5_scan_102 rfl rfl ?_ ?_
    · exact hk0 I_14
    · refine w_aload_n (q := 106) (i := 0) (j := 0) hc dX5_scan_105 rfl rfl rfl ?_
      refine gf_X5_11 (q := 109) hc dX5_scan_106 (k_1 hK) (r_1_0 hR) rfl ?_
      refine w_aload_n (q := 110) (i := 0) (j := 0) hc dX5_scan_109 rfl rfl rfl ?_
      refine gf_X5_22 (q := 113) hc dX5_scan_110 (k_1 hK) rfl ?_
      refine w_bald (q := 114) hc dX5_scan_113 (k_2 hK) rfl ?_
      refine w_callS_Rz (q := 117) (st := []) (args := [.int (I_14 2 (ix (I_14 1 3)))]) hc (m_X5_isLetter hK hR) dX5_scan_114 ml_X5_84 cf_X5_isLetter st_X5_isLetter rfl rfl (Nat.le_of_ble_eq_true rfl) ⟨Nat.le_of_ble_eq_true rfl, Nat.le_of_ble_eq_true rfl⟩ rfl (fun q_15 => ?_)
      refine w_ifeq (q := 120) (tgt := 133) hc dX5_scan_117 rfl rfl ?_ ?_
      · exact hk0 I_14
      · refine w_aload_n (q := 121) (i := 0) (j := 0) hc dX5_scan_120 rfl rfl rfl ?_
        refine w_dup_ref (q := 122) hc dX5_scan_121  rfl ?_
        refine gf_X5_22 (q := 125) hc dX5_scan_122 (k_1 hK) rfl ?_
        refine w_iconst (q := 126) hc dX5_scan_125 ci_1 rfl ?_
        refine w_iadd (q := 127) hc dX5_scan_126  rfl ?_
        refine pf_X5_22 (q := 130) hc dX5_scan_127 (k_1 hK) rfl (fun I_16 => ?_)
        refine w_goto (tgt := 94) hc dX5_scan_130 rfl ?_
        exact ih I_16
set_option maxRecDepth 100000 in
set_option maxHeartbeats 4000000 in
theorem wl_X5_scan_0 {G : GT Mm} {rm : Nat} (L : ML) (hc : Cx G cX5_scan yX5_scan.cls none 2 40) (hq : RetQ G anV meV) (hK : gK G = lK rm) (hR : gR G = lR rm) (hn : gnL G = 2) (k0 : MI → Option Mm) (hk0 : ∀ (I_4 : MI), WW G 52 [(0, .ref 1)] [] I_4 L (k0 I_4)) : ∀ (n : Nat) (I_1 : MI), WW G 0 [(0, .ref 1)] [] I_1 L (f_X5_scan_0 L k0 n I_1) := by
  have hN : ∀ i, Nat.blt i 2 = true → i < gnL G := fun i h => hn ▸ Nat.blt_eq.mp h
  intro n
  induction n with
  | zero => intros; exact w_none _ _ _
  | succ n ih =>
    intros I_1
    rw [f_X5_scan_0]
    refine w_aload_n (q := 1) (i := 0) (j := 0) hc dX5_scan_0 rfl rfl rfl ?_
    refine gf_X5_22 (q := 4) hc dX5_scan_1 (k_1 hK) rfl ?_
    refine w_aload_n (q := 5) (i := 0) (j := 0) hc dX5_scan_4 rfl rfl rfl ?_
    refine gf_X5_19 (q := 8) hc dX5_scan_5 (k_1 hK) rfl ?_
    refine w_icmpge (q := 11) (tgt := 52) hc dX5_scan_8 rfl rfl ?_ ?_
    · exact hk0 I_1
    · refine w_aload_n (q := 12) (i := 0) (j := 0) hc dX5_scan_11 rfl rfl rfl ?_
      refine gf_X5_11 (q := 15) hc dX5_scan_12 (k_1 hK) (r_1_0 hR) rfl ?_
      refine w_aload_n (q := 16) (i := 0) (j := 0) hc dX5_scan_15 rfl rfl rfl ?_
      refine gf_X5_22 (q := 19) hc dX5_scan_16 (k_1 hK) rfl ?_
      refine w_bald (q := 20) hc dX5_scan_19 (k_2 hK) rfl ?_
      refine w_bipush (q := 22) hc dX5_scan_20 cb_32 rfl ?_
      refine w_icmpeq (q := 25) (tgt := 39) hc dX5_scan_22 rfl rfl ?_ ?_
      · refine w_aload_n (q := 40) (i := 0) (j := 0) hc dX5_scan_39 rfl rfl rfl ?_
        refine w_dup_ref (q := 41) hc dX5_scan_40  rfl ?_
        refine gf_X5_22 (q := 44) hc dX5_scan_41 (k_1 hK) rfl ?_
        refine w_iconst (q := 45) hc dX5_scan_44 ci_1 rfl ?_
        refine w_iadd (q := 46) hc dX5_scan_45  rfl ?_
        refine pf_X5_22 (q := 49) hc dX5_scan_46 (k_1 hK) rfl (fun I_2 => ?_)
        refine w_goto (tgt := 0) hc dX5_scan_49 rfl ?_
        exact ih I_2
      · refine w_aload_n (q := 26) (i := 0) (j := 0) hc dX5_scan_25 rfl rfl rfl ?_
        refine gf_X5_11 (q := 29) hc dX5_scan_26 (k_1 hK) (r_1_0 hR) rfl ?_
        refine w_aload_n (q := 30) (i := 0) (j := 0) hc dX5_scan_29 rfl rfl rfl ?_
        refine gf_X5_22 (q := 33) hc dX5_scan_30 (k_1 hK) rfl ?_
        refine w_bald (q := 34) hc dX5_scan_33 (k_2 hK) rfl ?_
        refine w_bipush (q := 36) hc dX5_scan_34 cb_10 rfl ?_
        refine w_icmpne (q := 39) (tgt := 52) hc dX5_scan_36 rfl rfl ?_ ?_
        · refine w_aload_n (q := 40) (i := 0) (j := 0) hc dX5_scan_39 rfl rfl rfl ?_
          refine w_dup_ref (q := 41) hc dX5_scan_40  rfl ?_
          refine gf_X5_22 (q := 44) hc dX5_scan_41 (k_1 hK) rfl ?_
          refine w_iconst (q := 45) hc dX5_scan_44 ci_1 rfl ?_
          refine w_iadd (q := 46) hc dX5_scan_45  rfl ?_
          refine pf_X5_22 (q := 49) hc dX5_scan_46 (k_1 hK) rfl (fun I_3 => ?_)
          refine w_goto (tgt := 0) hc dX5_scan_49 rfl ?_
          exact ih I_3
        · exact hk0 I_1
set_option maxRecDepth 100000 in
set_option maxHeartbeats 4000000 in
theorem m_X5_scan {l : Launch} {K : KT} {R : MR} {rm : Nat} {I : MI} {L : ML} (hK0 : K = lK rm) (hR0 : R = lR rm) : MFg l yX5_scan cX5_scan 2 none 2 40 [.ref 1] K R I L anV meV (f_X5_scan I L) := by
  refine mf_of (plainFor_of_name (by decide)) (Nat.le_of_ble_eq_true rfl) ?_
  intro G hc _ hK1 hR1 hn hq
  have hK := hK1.trans hK0
  have hR := hR1.trans hR0
  have hN : ∀ i, Nat.blt i 2 = true → i < gnL G := fun i h => hn ▸ Nat.blt_eq.mp h
  unfold f_X5_scan
  show WW G 0 [(0, .ref 1)] [] I L _
  refine wl_X5_scan_0 L hc hq hK hR hn _ ?_ FU I
  intro I_4
  refine w_aload_n (q := 53) (i := 0) (j := 0) hc dX5_scan_52 rfl rfl rfl ?_
  refine w_aload_n (q := 54) (i := 0) (j := 0) hc dX5_scan_53 rfl rfl rfl ?_
  refine gf_X5_22 (q := 57) hc dX5_scan_54 (k_1 hK) rfl ?_
  refine pf_X5_28 (q := 60) hc dX5_scan_57 (k_1 hK) rfl (fun I_5 => ?_)
  refine w_aload_n (q := 61) (i := 0) (j := 0) hc dX5_scan_60 rfl rfl rfl ?_
  refine gf_X5_22 (q := 64) hc dX5_scan_61 (k_1 hK) rfl ?_
  refine w_aload_n (q := 65) (i := 0) (j := 0) hc dX5_scan_64 rfl rfl rfl ?_
  refine gf_X5_19 (q := 68) hc dX5_scan_65 (k_1 hK) rfl ?_
  refine w_icmplt (q := 71) (tgt := 77) hc dX5_scan_68 rfl rfl ?_ ?_
  · refine w_aload_n (q := 78) (i := 0) (j := 0) hc dX5_scan_77 rfl rfl rfl ?_
    refine gf_X5_11 (q := 81) hc dX5_scan_78 (k_1 hK) (r_1_0 hR) rfl ?_
    refine w_aload_n (q := 82) (i := 0) (j := 0) hc dX5_scan_81 rfl rfl rfl ?_
    refine gf_X5_22 (q := 85) hc dX5_scan_82 (k_1 hK) rfl ?_
    refine w_bald (q := 86) hc dX5_scan_85 (k_2 hK) rfl ?_
    refine w_istore_nB (q := 87) (i := 1) (lv' := fun v1_6 => [(1, .int v1_6), (0, .ref 1)]) hc dX5_scan_86 rfl (hN 1 rfl) (fun _ => rfl) rfl (fun v1_6 => ?_)
    refine w_iload_n (q := 88) (i := 1) (j := 0) hc dX5_scan_87 rfl rfl rfl ?_
    refine w_callS_Rz (q := 91) (st := []) (args := [.int v1_6]) hc (m_X5_isLetter hK hR) dX5_scan_88 ml_X5_84 cf_X5_isLetter st_X5_isLetter rfl rfl (Nat.le_of_ble_eq_true rfl) ⟨Nat.le_of_ble_eq_true rfl, Nat.le_of_ble_eq_true rfl⟩ rfl (fun q_7 => ?_)
    refine w_ifeq (q := 94) (tgt := 159) hc dX5_scan_91 rfl rfl ?_ ?_
    · refine w_iload_n (q := 160) (i := 1) (j := 0) hc dX5_scan_159 rfl rfl rfl ?_
      refine w_callS_Rz (q := 163) (st := []) (args := [.int v1_6]) hc (m_X5_isDigit hK hR) dX5_scan_160 ml_X5_87 cf_X5_isDigit st_X5_isDigit rfl rfl (Nat.le_of_ble_eq_true rfl) ⟨Nat.le_of_ble_eq_true rfl, Nat.le_of_ble_eq_true rfl⟩ rfl (fun q_8 => ?_)
      refine w_ifeq (q := 166) (tgt := 173) hc dX5_scan_163 rfl rfl ?_ ?_
      · refine w_aload_n (q := 174) (i := 0) (j := 1) hc dX5_scan_173 rfl rfl rfl ?_
        refine w_dup_ref (q := 175) hc dX5_scan_174  rfl ?_
        refine gf_X5_22 (q := 178) hc dX5_scan_175 (k_1 hK) rfl ?_
        refine w_iconst (q := 179) hc dX5_scan_178 ci_1 rfl ?_
        refine w_iadd (q := 180) hc dX5_scan_179  rfl ?_
        refine pf_X5_22 (q := 183) hc dX5_scan_180 (k_1 hK) rfl (fun I_9 => ?_)
        refine w_aload_n (q := 184) (i := 0) (j := 1) hc dX5_scan_183 rfl rfl rfl ?_
        refine w_iload_n (q := 185) (i := 1) (j := 0) hc dX5_scan_184 rfl rfl rfl ?_
        refine w_callS_Rz (q := 188) (st := [.ref 1]) (args := [.int v1_6]) hc (m_X5_isSign hK hR) dX5_scan_185 ml_X5_93 cf_X5_isSign st_X5_isSign rfl rfl (Nat.le_of_ble_eq_true rfl) ⟨Nat.le_of_ble_eq_true rfl, Nat.le_of_ble_eq_true rfl⟩ rfl (fun q_10 => ?_)
        refine w_ifeq (q := 191) (tgt := 195) hc dX5_scan_188 rfl rfl ?_ ?_
        · refine w_iconst (q := 196) hc dX5_scan_195 ci_3 rfl ?_
          refine pf_X5_25 (q := 199) hc dX5_scan_196 (k_1 hK) rfl (fun I_11 => ?_)
          exact w_return hc hq dX5_scan_199 rfl rfl
        · refine w_iload_n (q := 192) (i := 1) (j := 0) hc dX5_scan_191 rfl rfl rfl ?_
          refine w_goto (tgt := 196) hc dX5_scan_192 rfl ?_
          refine pf_X5_25 (q := 199) hc dX5_scan_196 (k_1 hK) rfl (fun I_12 => ?_)
          exact w_return hc hq dX5_scan_199 rfl rfl
      · refine w_aload_n (q := 167) (i := 0) (j := 1) hc dX5_scan_166 rfl rfl rfl ?_
        refine w_callV_Wv (q := 170) (st := []) (args := []) (p := 1) hc (m_X5_scanNumber hK hR) dX5_scan_167 ml_X5_90 cf_X5_scanNumber iv_X5_scanNumber (k_1 hK) (C := RX5) (T := TX5) (N := 16) rfl rfl (Nat.lt_of_succ_le (Nat.le_of_ble_eq_true rfl)) rfl rfl (Nat.le_of_ble_eq_true rfl) ⟨Nat.le_of_ble_eq_true rfl, Nat.le_of_ble_eq_true rfl⟩ rfl (fun q_13 => ?_)
        refine w_goto (tgt := 199) hc dX5_scan_170 rfl ?_
        exact w_return hc hq dX5_scan_199 rfl rfl
    · refine w_sub [1] rfl ?_
      refine wl_X5_scan_94 L hc hq hK hR hn _ ?_ FU I_5
      intro I_17
      refine w_aload_n (q := 134) (i := 0) (j := 0) hc dX5_scan_133 rfl rfl rfl ?_
      refine w_aload_n (q := 135) (i := 0) (j := 0) hc dX5_scan_134 rfl rfl rfl ?_
      refine gf_X5_22 (q := 138) hc dX5_scan_135 (k_1 hK) rfl ?_
      refine w_aload_n (q := 139) (i := 0) (j := 0) hc dX5_scan_138 rfl rfl rfl ?_
      refine gf_X5_28 (q := 142) hc dX5_scan_139 (k_1 hK) rfl ?_
      refine w_isub (q := 143) hc dX5_scan_142  rfl ?_
      refine w_bipush (q := 145) hc dX5_scan_143 cb_8 rfl ?_
      refine w_icmpgt (q := 148) (tgt := 152) hc dX5_scan_145 rfl rfl ?_ ?_
      · refine w_iconst (q := 153) hc dX5_scan_152 ci_3 rfl ?_
        refine pf_X5_25 (q := 156) hc dX5_scan_153 (k_1 hK) rfl (fun I_18 => ?_)
        refine w_goto (tgt := 199) hc dX5_scan_156 rfl ?_
        exact w_return hc hq dX5_scan_199 rfl rfl
      · refine w_iconst (q := 149) hc dX5_scan_148 ci_1 rfl ?_
        refine w_goto (tgt := 153) hc dX5_scan_149 rfl ?_
        refine pf_X5_25 (q := 156) hc dX5_scan_153 (k_1 hK) rfl (fun I_19 => ?_)
        refine w_goto (tgt := 199) hc dX5_scan_156 rfl ?_
        exact w_return hc hq dX5_scan_199 rfl rfl
  · refine w_aload_n (q := 72) (i := 0) (j := 0) hc dX5_scan_71 rfl rfl rfl ?_
    refine w_iconst (q := 73) hc dX5_scan_72 ci_0 rfl ?_
    refine pf_X5_25 (q := 76) hc dX5_scan_73 (k_1 hK) rfl (fun I_20 => ?_)
    exact w_return hc hq dX5_scan_76 rfl rfl
set_option maxRecDepth 100000 in
set_option maxHeartbeats 4000000 in
theorem m_X5_fail {l : Launch} {K : KT} {R : MR} {rm : Nat} {a1 : Int32} {I : MI} {L : ML} (hK0 : K = lK rm) (hR0 : R = lR rm) : MFg l yX5_fail cX5_fail 2 (some .boolean) 0 0 [.ref 1, .int a1] K R I L anZW meW (f_X5_fail a1 I L) := by
  refine mf_of (plainFor_of_name (by decide)) (Nat.le_of_ble_eq_true rfl) ?_
  intro G hc _ hK1 hR1 hn hq
  have hK := hK1.trans hK0
  have hR := hR1.trans hR0
  have hN : ∀ i, Nat.blt i 2 = true → i < gnL G := fun i h => hn ▸ Nat.blt_eq.mp h
  unfold f_X5_fail
  show WW G 0 [(0, .ref 1), (1, .int a1)] [] I L _
  refine w_aload_n (q := 1) (i := 0) (j := 0) hc dX5_fail_0 rfl rfl rfl ?_
  refine w_iload_n (q := 2) (i := 1) (j := 1) hc dX5_fail_1 rfl rfl rfl ?_
  refine pf_X5_58 (q := 5) hc dX5_fail_2 (k_1 hK) rfl (fun I_1 => ?_)
  refine w_aload_n (q := 6) (i := 0) (j := 0) hc dX5_fail_5 rfl rfl rfl ?_
  refine w_aload_n (q := 7) (i := 0) (j := 0) hc dX5_fail_6 rfl rfl rfl ?_
  refine gf_X5_28 (q := 10) hc dX5_fail_7 (k_1 hK) rfl ?_
  refine pf_X5_61 (q := 13) hc dX5_fail_10 (k_1 hK) rfl (fun I_2 => ?_)
  refine w_iconst (q := 14) hc dX5_fail_13 ci_0 rfl ?_
  exact w_ireturn (v := b2i false) hc hq dX5_fail_14 (nar_b2i false) rfl rfl
set_option maxRecDepth 100000 in
set_option maxHeartbeats 4000000 in
theorem m_X5_need {l : Launch} {K : KT} {R : MR} {rm : Nat} {a1 : Int32} {I : MI} {L : ML} (hK0 : K = lK rm) (hR0 : R = lR rm) : MFg l yX5_need cX5_need 2 (some .boolean) 1 21 [.ref 1, .int a1] K R I L anZW meW (f_X5_need a1 I L) := by
  refine mf_of (plainFor_of_name (by decide)) (Nat.le_of_ble_eq_true rfl) ?_
  intro G hc _ hK1 hR1 hn hq
  have hK := hK1.trans hK0
  have hR := hR1.trans hR0
  have hN : ∀ i, Nat.blt i 2 = true → i < gnL G := fun i h => hn ▸ Nat.blt_eq.mp h
  unfold f_X5_need
  show WW G 0 [(0, .ref 1), (1, .int a1)] [] I L _
  refine w_aload_n (q := 1) (i := 0) (j := 0) hc dX5_need_0 rfl rfl rfl ?_
  refine gf_X5_25 (q := 4) hc dX5_need_1 (k_1 hK) rfl ?_
  refine w_iload_n (q := 5) (i := 1) (j := 1) hc dX5_need_4 rfl rfl rfl ?_
  refine w_icmpne (q := 8) (tgt := 10) hc dX5_need_5 rfl rfl ?_ ?_
  · refine w_iconst (q := 9) hc dX5_need_8 ci_1 rfl ?_
    exact w_ireturn (v := b2i true) hc hq dX5_need_9 (nar_b2i true) rfl rfl
  · refine w_aload_n (q := 11) (i := 0) (j := 0) hc dX5_need_10 rfl rfl rfl ?_
    refine w_aload_n (q := 12) (i := 0) (j := 0) hc dX5_need_11 rfl rfl rfl ?_
    refine gf_X5_25 (q := 15) hc dX5_need_12 (k_1 hK) rfl ?_
    refine w_iconst (q := 16) hc dX5_need_15 ci_3 rfl ?_
    refine w_icmpne (q := 19) (tgt := 23) hc dX5_need_16 rfl rfl ?_ ?_
    · refine w_iconst (q := 20) hc dX5_need_19 ci_1 rfl ?_
      refine w_goto (tgt := 24) hc dX5_need_20 rfl ?_
      refine w_callV_Wz (q := 27) (st := []) (args := [.int 1]) (p := 1) hc (m_X5_fail hK hR) dX5_need_24 ml_X5_96 cf_X5_fail iv_X5_fail (k_1 hK) (C := RX5) (T := TX5) (N := 16) rfl rfl (Nat.lt_of_succ_le (Nat.le_of_ble_eq_true rfl)) rfl rfl (Nat.le_of_ble_eq_true rfl) ⟨Nat.le_of_ble_eq_true rfl, Nat.le_of_ble_eq_true rfl⟩ rfl (fun q_2 => ?_)
      exact w_ireturn (v := b2i q_2.1) hc hq dX5_need_27 (nar_b2i q_2.1) rfl rfl
    · refine w_iconst (q := 24) hc dX5_need_23 ci_2 rfl ?_
      refine w_callV_Wz (q := 27) (st := []) (args := [.int 2]) (p := 1) hc (m_X5_fail hK hR) dX5_need_24 ml_X5_96 cf_X5_fail iv_X5_fail (k_1 hK) (C := RX5) (T := TX5) (N := 16) rfl rfl (Nat.lt_of_succ_le (Nat.le_of_ble_eq_true rfl)) rfl rfl (Nat.le_of_ble_eq_true rfl) ⟨Nat.le_of_ble_eq_true rfl, Nat.le_of_ble_eq_true rfl⟩ rfl (fun q_1 => ?_)
      exact w_ireturn (v := b2i q_1.1) hc hq dX5_need_27 (nar_b2i q_1.1) rfl rfl
set_option maxRecDepth 100000 in
set_option maxHeartbeats 4000000 in
theorem wl_X5_says_20 {G : GT Bool} {rm : Nat} (s1 : Nat) (I : MI) (L : ML) (hc : Cx G cX5_says yX5_says.cls (some .boolean) 4 85) (hq : RetQ G anZ (meR I L)) (hK : gK G = lK rm) (hR : gR G = lR rm) (hn : gnL G = 3) (hs1 : s1 < 3) : ∀ (n : Nat) (v2_2 : Int32), WW G 20 [(0, .ref 1), (1, .ref (1000000 + s1)), (2, .int v2_2)] [] I L (f_X5_says_20 s1 I L n v2_2) := by
  have hN : ∀ i, Nat.blt i 3 = true → i < gnL G := fun i h => hn ▸ Nat.blt_eq.mp h
  intro n
  induction n with
  | zero => intros; exact w_none _ _ _
  | succ n ih =>
    intros v2_2
    rw [f_X5_says_20]
    refine w_iload_n (q := 21) (i := 2) (j := 2) hc dX5_says_20 rfl rfl rfl ?_
    refine w_aload_n (q := 22) (i := 1) (j := 1) hc dX5_says_21 rfl rfl rfl ?_
    refine w_callVS_Ri (k := s1) hs1 (q := 25) (st := [.int v2_2]) (args := []) hc (m_J0_length_8abf5 hs1) dX5_says_22 ml_X5_99 cf_J0_length_8abf5 iv_J0_length_8abf5 rfl rfl rfl (Nat.le_of_ble_eq_true rfl) ⟨Nat.le_of_ble_eq_true rfl, Nat.le_of_ble_eq_true rfl⟩ rfl (fun q_3 => ?_)
    refine w_icmpge (q := 28) (tgt := 67) hc dX5_says_25 rfl rfl ?_ ?_
    · refine w_iconst (q := 68) hc dX5_says_67 ci_1 rfl ?_
      exact w_ireturn (v := b2i true) hc hq dX5_says_68 (nar_b2i true) rfl rfl
    · refine w_aload_n (q := 29) (i := 0) (j := 0) hc dX5_says_28 rfl rfl rfl ?_
      refine gf_X5_28 (q := 32) hc dX5_says_29 (k_1 hK) rfl ?_
      refine w_iload_n (q := 33) (i := 2) (j := 2) hc dX5_says_32 rfl rfl rfl ?_
      refine w_iadd (q := 34) hc dX5_says_33  rfl ?_
      refine w_sipush (q := 37) hc dX5_says_34 cs_400 rfl ?_
      refine w_icmpge (q := 40) (tgt := 67) hc dX5_says_37 rfl rfl ?_ ?_
      · refine w_iconst (q := 68) hc dX5_says_67 ci_1 rfl ?_
        exact w_ireturn (v := b2i true) hc hq dX5_says_68 (nar_b2i true) rfl rfl
      · refine w_aload_n (q := 41) (i := 0) (j := 0) hc dX5_says_40 rfl rfl rfl ?_
        refine gf_X5_11 (q := 44) hc dX5_says_41 (k_1 hK) (r_1_0 hR) rfl ?_
        refine w_aload_n (q := 45) (i := 0) (j := 0) hc dX5_says_44 rfl rfl rfl ?_
        refine gf_X5_28 (q := 48) hc dX5_says_45 (k_1 hK) rfl ?_
        refine w_iload_n (q := 49) (i := 2) (j := 2) hc dX5_says_48 rfl rfl rfl ?_
        refine w_iadd (q := 50) hc dX5_says_49  rfl ?_
        refine w_bald (q := 51) hc dX5_says_50 (k_2 hK) rfl ?_
        refine w_aload_n (q := 52) (i := 1) (j := 1) hc dX5_says_51 rfl rfl rfl ?_
        refine w_iload_n (q := 53) (i := 2) (j := 2) hc dX5_says_52 rfl rfl rfl ?_
        refine w_callVS_Ri (k := s1) hs1 (q := 56) (st := [.int (I 2 (ix ((I 1 5) + v2_2)))]) (args := [.int v2_2]) hc (m_J0_charAt_5068e hs1) dX5_says_53 ml_X5_104 cf_J0_charAt_5068e iv_J0_charAt_5068e rfl rfl rfl (Nat.le_of_ble_eq_true rfl) ⟨Nat.le_of_ble_eq_true rfl, Nat.le_of_ble_eq_true rfl⟩ rfl (fun q_4 => ?_)
        refine w_icmpeq (q := 59) (tgt := 61) hc dX5_says_56 rfl rfl ?_ ?_
        · refine w_iincB (q := 64) (i := 2) (j := 2) (lv' := fun v2_5 => [(2, .int v2_5), (0, .ref 1), (1, .ref (1000000 + s1))]) hc dX5_says_61 rfl ci_1 (hN 2 rfl) (fun _ => rfl) rfl (fun v2_5 => ?_)
          refine w_goto (tgt := 20) hc dX5_says_64 rfl ?_
          refine w_sub [1, 2, 0] rfl ?_
          exact ih v2_5
        · refine w_iconst (q := 60) hc dX5_says_59 ci_0 rfl ?_
          exact w_ireturn (v := b2i false) hc hq dX5_says_60 (nar_b2i false) rfl rfl
set_option maxRecDepth 100000 in
set_option maxHeartbeats 4000000 in
theorem m_X5_says {l : Launch} {K : KT} {R : MR} {rm : Nat} {s1 : Nat} {I : MI} {L : ML} (hK0 : K = lK rm) (hR0 : R = lR rm) (hs1 : s1 < 3) : MFg l yX5_says cX5_says 3 (some .boolean) 4 85 [.ref 1, .ref (1000000 + s1)] K R I L anZ (meR I L) (f_X5_says s1 I L) := by
  refine mf_of (plainFor_of_name (by decide)) (Nat.le_of_ble_eq_true rfl) ?_
  intro G hc _ hK1 hR1 hn hq
  have hK := hK1.trans hK0
  have hR := hR1.trans hR0
  have hN : ∀ i, Nat.blt i 3 = true → i < gnL G := fun i h => hn ▸ Nat.blt_eq.mp h
  unfold f_X5_says
  show WW G 0 [(0, .ref 1), (1, .ref (1000000 + s1))] [] I L _
  refine w_aload_n (q := 1) (i := 0) (j := 0) hc dX5_says_0 rfl rfl rfl ?_
  refine gf_X5_22 (q := 4) hc dX5_says_1 (k_1 hK) rfl ?_
  refine w_aload_n (q := 5) (i := 0) (j := 0) hc dX5_says_4 rfl rfl rfl ?_
  refine gf_X5_28 (q := 8) hc dX5_says_5 (k_1 hK) rfl ?_
  refine w_isub (q := 9) hc dX5_says_8  rfl ?_
  refine w_aload_n (q := 10) (i := 1) (j := 1) hc dX5_says_9 rfl rfl rfl ?_
  refine w_callVS_Ri (k := s1) hs1 (q := 13) (st := [.int ((I 1 3) - (I 1 5))]) (args := []) hc (m_J0_length_8abf5 hs1) dX5_says_10 ml_X5_99 cf_J0_length_8abf5 iv_J0_length_8abf5 rfl rfl rfl (Nat.le_of_ble_eq_true rfl) ⟨Nat.le_of_ble_eq_true rfl, Nat.le_of_ble_eq_true rfl⟩ rfl (fun q_1 => ?_)
  refine w_icmpeq (q := 16) (tgt := 18) hc dX5_says_13 rfl rfl ?_ ?_
  · refine w_iconst (q := 19) hc dX5_says_18 ci_0 rfl ?_
    refine w_istore_n (q := 20) (i := 2) (lv' := [(2, .int 0), (0, .ref 1), (1, .ref (1000000 + s1))]) hc dX5_says_19 rfl (hN 2 rfl) rfl rfl ?_
    refine w_sub [1, 2, 0] rfl ?_
    exact wl_X5_says_20 s1 I L hc hq hK hR hn hs1 FU 0
  · refine w_iconst (q := 17) hc dX5_says_16 ci_0 rfl ?_
    exact w_ireturn (v := b2i false) hc hq dX5_says_17 (nar_b2i false) rfl rfl
set_option maxRecDepth 100000 in
set_option maxHeartbeats 4000000 in
theorem m_X5_readPoints {l : Launch} {K : KT} {R : MR} {rm : Nat} {I : MI} {L : ML} (hK0 : K = lK rm) (hR0 : R = lR rm) : MFg l yX5_readPoints cX5_readPoints 1 (some .boolean) 5 107 [.ref 1] K R I L anZW meW (f_X5_readPoints I L) := by
  refine mf_of (plainFor_of_name (by decide)) (Nat.le_of_ble_eq_true rfl) ?_
  intro G hc _ hK1 hR1 hn hq
  have hK := hK1.trans hK0
  have hR := hR1.trans hR0
  have hN : ∀ i, Nat.blt i 1 = true → i < gnL G := fun i h => hn ▸ Nat.blt_eq.mp h
  unfold f_X5_readPoints
  show WW G 0 [(0, .ref 1)] [] I L _
  refine w_aload_n (q := 1) (i := 0) (j := 0) hc dX5_readPoints_0 rfl rfl rfl ?_
  refine w_iconst (q := 2) hc dX5_readPoints_1 ci_1 rfl ?_
  refine w_callV_Wz (q := 5) (st := []) (args := [.int 1]) (p := 1) hc (m_X5_need hK hR) dX5_readPoints_2 ml_X5_108 cf_X5_need iv_X5_need (k_1 hK) (C := RX5) (T := TX5) (N := 16) rfl rfl (Nat.lt_of_succ_le (Nat.le_of_ble_eq_true rfl)) rfl rfl (Nat.le_of_ble_eq_true rfl) ⟨Nat.le_of_ble_eq_true rfl, Nat.le_of_ble_eq_true rfl⟩ rfl (fun q_1 => ?_)
  refine w_ifne (q := 8) (tgt := 10) hc dX5_readPoints_5 rfl rfl ?_ ?_
  · refine w_iconst (q := 9) hc dX5_readPoints_8 ci_0 rfl ?_
    exact w_ireturn (v := b2i false) hc hq dX5_readPoints_9 (nar_b2i false) rfl rfl
  · refine w_aload_n (q := 11) (i := 0) (j := 0) hc dX5_readPoints_10 rfl rfl rfl ?_
    refine w_ldcS0 (q := 13) hc dX5_readPoints_11  rfl ?_
    refine w_callV_Rz (q := 16) (st := []) (args := [.ref 1000000]) (p := 1) hc (m_X5_says hK hR (by decide)) dX5_readPoints_13 ml_X5_112 cf_X5_says iv_X5_says (k_1 hK) (C := RX5) (T := TX5) (N := 16) rfl rfl (Nat.lt_of_succ_le (Nat.le_of_ble_eq_true rfl)) rfl rfl (Nat.le_of_ble_eq_true rfl) ⟨Nat.le_of_ble_eq_true rfl, Nat.le_of_ble_eq_true rfl⟩ rfl (fun q_2 => ?_)
    refine w_ifne (q := 19) (tgt := 25) hc dX5_readPoints_16 rfl rfl ?_ ?_
    · refine w_aload_n (q := 20) (i := 0) (j := 0) hc dX5_readPoints_19 rfl rfl rfl ?_
      refine w_iconst (q := 21) hc dX5_readPoints_20 ci_2 rfl ?_
      refine w_callV_Wz (q := 24) (st := []) (args := [.int 2]) (p := 1) hc (m_X5_fail hK hR) dX5_readPoints_21 ml_X5_96 cf_X5_fail iv_X5_fail (k_1 hK) (C := RX5) (T := TX5) (N := 16) rfl rfl (Nat.lt_of_succ_le (Nat.le_of_ble_eq_true rfl)) rfl rfl (Nat.le_of_ble_eq_true rfl) ⟨Nat.le_of_ble_eq_true rfl, Nat.le_of_ble_eq_true rfl⟩ rfl (fun q_9 => ?_)
      exact w_ireturn (v := b2i q_9.1) hc hq dX5_readPoints_24 (nar_b2i q_9.1) rfl rfl
    · refine w_aload_n (q := 26) (i := 0) (j := 0) hc dX5_readPoints_25 rfl rfl rfl ?_
      refine w_callV_Wv (q := 29) (st := []) (args := []) (p := 1) hc (m_X5_scan hK hR) dX5_readPoints_26 ml_X5_70 cf_X5_scan iv_X5_scan (k_1 hK) (C := RX5) (T := TX5) (N := 16) rfl rfl (Nat.lt_of_succ_le (Nat.le_of_ble_eq_true rfl)) rfl rfl (Nat.le_of_ble_eq_true rfl) ⟨Nat.le_of_ble_eq_true rfl, Nat.le_of_ble_eq_true rfl⟩ rfl (fun q_3 => ?_)
      refine w_aload_n (q := 30) (i := 0) (j := 0) hc dX5_readPoints_29 rfl rfl rfl ?_
      refine w_iconst (q := 31) hc dX5_readPoints_30 ci_2 rfl ?_
      refine w_callV_Wz (q := 34) (st := []) (args := [.int 2]) (p := 1) hc (m_X5_need hK hR) dX5_readPoints_31 ml_X5_108 cf_X5_need iv_X5_need (k_1 hK) (C := RX5) (T := TX5) (N := 16) rfl rfl (Nat.lt_of_succ_le (Nat.le_of_ble_eq_true rfl)) rfl rfl (Nat.le_of_ble_eq_true rfl) ⟨Nat.le_of_ble_eq_true rfl, Nat.le_of_ble_eq_true rfl⟩ rfl (fun q_4 => ?_)
      refine w_ifne (q := 37) (tgt := 39) hc dX5_readPoints_34 rfl rfl ?_ ?_
      · refine w_iconst (q := 38) hc dX5_readPoints_37 ci_0 rfl ?_
        exact w_ireturn (v := b2i false) hc hq dX5_readPoints_38 (nar_b2i false) rfl rfl
      · refine w_aload_n (q := 40) (i := 0) (j := 0) hc dX5_readPoints_39 rfl rfl rfl ?_
        refine gf_X5_31 (q := 43) hc dX5_readPoints_40 (k_1 hK) rfl ?_
        refine w_iconst (q := 44) hc dX5_readPoints_43 ci_2 rfl ?_
        refine w_icmplt (q := 47) (tgt := 56) hc dX5_readPoints_44 rfl rfl ?_ ?_
        · refine w_aload_n (q := 57) (i := 0) (j := 0) hc dX5_readPoints_56 rfl rfl rfl ?_
          refine w_iconst (q := 58) hc dX5_readPoints_57 ci_3 rfl ?_
          refine w_callV_Wz (q := 61) (st := []) (args := [.int 3]) (p := 1) hc (m_X5_fail hK hR) dX5_readPoints_58 ml_X5_96 cf_X5_fail iv_X5_fail (k_1 hK) (C := RX5) (T := TX5) (N := 16) rfl rfl (Nat.lt_of_succ_le (Nat.le_of_ble_eq_true rfl)) rfl rfl (Nat.le_of_ble_eq_true rfl) ⟨Nat.le_of_ble_eq_true rfl, Nat.le_of_ble_eq_true rfl⟩ rfl (fun q_5 => ?_)
          exact w_ireturn (v := b2i q_5.1) hc hq dX5_readPoints_61 (nar_b2i q_5.1) rfl rfl
        · refine w_aload_n (q := 48) (i := 0) (j := 0) hc dX5_readPoints_47 rfl rfl rfl ?_
          refine gf_X5_31 (q := 51) hc dX5_readPoints_48 (k_1 hK) rfl ?_
          refine w_bipush (q := 53) hc dX5_readPoints_51 cb_10 rfl ?_
          refine w_icmple (q := 56) (tgt := 62) hc dX5_readPoints_53 rfl rfl ?_ ?_
          · refine w_aload_n (q := 63) (i := 0) (j := 0) hc dX5_readPoints_62 rfl rfl rfl ?_
            refine w_aload_n (q := 64) (i := 0) (j := 0) hc dX5_readPoints_63 rfl rfl rfl ?_
            refine gf_X5_31 (q := 67) hc dX5_readPoints_64 (k_1 hK) rfl ?_
            refine pf_X5_34 (q := 70) hc dX5_readPoints_67 (k_1 hK) rfl (fun I_6 => ?_)
            refine w_aload_n (q := 71) (i := 0) (j := 0) hc dX5_readPoints_70 rfl rfl rfl ?_
            refine w_callV_Wv (q := 74) (st := []) (args := []) (p := 1) hc (m_X5_scan hK hR) dX5_readPoints_71 ml_X5_70 cf_X5_scan iv_X5_scan (k_1 hK) (C := RX5) (T := TX5) (N := 16) rfl rfl (Nat.lt_of_succ_le (Nat.le_of_ble_eq_true rfl)) rfl rfl (Nat.le_of_ble_eq_true rfl) ⟨Nat.le_of_ble_eq_true rfl, Nat.le_of_ble_eq_true rfl⟩ rfl (fun q_7 => ?_)
            refine w_iconst (q := 75) hc dX5_readPoints_74 ci_1 rfl ?_
            exact w_ireturn (v := b2i true) hc hq dX5_readPoints_75 (nar_b2i true) rfl rfl
          · refine w_aload_n (q := 57) (i := 0) (j := 0) hc dX5_readPoints_56 rfl rfl rfl ?_
            refine w_iconst (q := 58) hc dX5_readPoints_57 ci_3 rfl ?_
            refine w_callV_Wz (q := 61) (st := []) (args := [.int 3]) (p := 1) hc (m_X5_fail hK hR) dX5_readPoints_58 ml_X5_96 cf_X5_fail iv_X5_fail (k_1 hK) (C := RX5) (T := TX5) (N := 16) rfl rfl (Nat.lt_of_succ_le (Nat.le_of_ble_eq_true rfl)) rfl rfl (Nat.le_of_ble_eq_true rfl) ⟨Nat.le_of_ble_eq_true rfl, Nat.le_of_ble_eq_true rfl⟩ rfl (fun q_8 => ?_)
            exact w_ireturn (v := b2i q_8.1) hc hq dX5_readPoints_61 (nar_b2i q_8.1) rfl rfl
set_option maxRecDepth 100000 in
set_option maxHeartbeats 4000000 in
theorem m_X5_needName {l : Launch} {K : KT} {R : MR} {rm : Nat} {I : MI} {L : ML} (hK0 : K = lK rm) (hR0 : R = lR rm) : MFg l yX5_needName cX5_needName 1 (some .boolean) 5 107 [.ref 1] K R I L anZW meW (f_X5_needName I L) := by
  refine mf_of (plainFor_of_name (by decide)) (Nat.le_of_ble_eq_true rfl) ?_
  intro G hc _ hK1 hR1 hn hq
  have hK := hK1.trans hK0
  have hR := hR1.trans hR0
  have hN : ∀ i, Nat.blt i 1 = true → i < gnL G := fun i h => hn ▸ Nat.blt_eq.mp h
  unfold f_X5_needName
  show WW G 0 [(0, .ref 1)] [] I L _
  refine w_aload_n (q := 1) (i := 0) (j := 0) hc dX5_needName_0 rfl rfl rfl ?_
  refine w_iconst (q := 2) hc dX5_needName_1 ci_1 rfl ?_
  refine w_callV_Wz (q := 5) (st := []) (args := [.int 1]) (p := 1) hc (m_X5_need hK hR) dX5_needName_2 ml_X5_108 cf_X5_need iv_X5_need (k_1 hK) (C := RX5) (T := TX5) (N := 16) rfl rfl (Nat.lt_of_succ_le (Nat.le_of_ble_eq_true rfl)) rfl rfl (Nat.le_of_ble_eq_true rfl) ⟨Nat.le_of_ble_eq_true rfl, Nat.le_of_ble_eq_true rfl⟩ rfl (fun q_1 => ?_)
  refine w_ifne (q := 8) (tgt := 10) hc dX5_needName_5 rfl rfl ?_ ?_
  · refine w_iconst (q := 9) hc dX5_needName_8 ci_0 rfl ?_
    exact w_ireturn (v := b2i false) hc hq dX5_needName_9 (nar_b2i false) rfl rfl
  · refine w_aload_n (q := 11) (i := 0) (j := 0) hc dX5_needName_10 rfl rfl rfl ?_
    refine w_ldcS0 (q := 13) hc dX5_needName_11  rfl ?_
    refine w_callV_Rz (q := 16) (st := []) (args := [.ref 1000000]) (p := 1) hc (m_X5_says hK hR (by decide)) dX5_needName_13 ml_X5_112 cf_X5_says iv_X5_says (k_1 hK) (C := RX5) (T := TX5) (N := 16) rfl rfl (Nat.lt_of_succ_le (Nat.le_of_ble_eq_true rfl)) rfl rfl (Nat.le_of_ble_eq_true rfl) ⟨Nat.le_of_ble_eq_true rfl, Nat.le_of_ble_eq_true rfl⟩ rfl (fun q_2 => ?_)
    refine w_ifne (q := 19) (tgt := 37) hc dX5_needName_16 rfl rfl ?_ ?_
    · refine w_aload_n (q := 20) (i := 0) (j := 0) hc dX5_needName_19 rfl rfl rfl ?_
      refine w_ldcS1 (q := 22) hc dX5_needName_20  rfl ?_
      refine w_callV_Rz (q := 25) (st := []) (args := [.ref 1000001]) (p := 1) hc (m_X5_says hK hR (by decide)) dX5_needName_22 ml_X5_112 cf_X5_says iv_X5_says (k_1 hK) (C := RX5) (T := TX5) (N := 16) rfl rfl (Nat.lt_of_succ_le (Nat.le_of_ble_eq_true rfl)) rfl rfl (Nat.le_of_ble_eq_true rfl) ⟨Nat.le_of_ble_eq_true rfl, Nat.le_of_ble_eq_true rfl⟩ rfl (fun q_4 => ?_)
      refine w_ifne (q := 28) (tgt := 37) hc dX5_needName_25 rfl rfl ?_ ?_
      · refine w_aload_n (q := 29) (i := 0) (j := 0) hc dX5_needName_28 rfl rfl rfl ?_
        refine w_ldcS2 (q := 31) hc dX5_needName_29  rfl ?_
        refine w_callV_Rz (q := 34) (st := []) (args := [.ref 1000002]) (p := 1) hc (m_X5_says hK hR (by decide)) dX5_needName_31 ml_X5_112 cf_X5_says iv_X5_says (k_1 hK) (C := RX5) (T := TX5) (N := 16) rfl rfl (Nat.lt_of_succ_le (Nat.le_of_ble_eq_true rfl)) rfl rfl (Nat.le_of_ble_eq_true rfl) ⟨Nat.le_of_ble_eq_true rfl, Nat.le_of_ble_eq_true rfl⟩ rfl (fun q_6 => ?_)
        refine w_ifeq (q := 37) (tgt := 43) hc dX5_needName_34 rfl rfl ?_ ?_
        · refine w_iconst (q := 44) hc dX5_needName_43 ci_1 rfl ?_
          exact w_ireturn (v := b2i true) hc hq dX5_needName_44 (nar_b2i true) rfl rfl
        · refine w_aload_n (q := 38) (i := 0) (j := 0) hc dX5_needName_37 rfl rfl rfl ?_
          refine w_iconst (q := 39) hc dX5_needName_38 ci_2 rfl ?_
          refine w_callV_Wz (q := 42) (st := []) (args := [.int 2]) (p := 1) hc (m_X5_fail hK hR) dX5_needName_39 ml_X5_96 cf_X5_fail iv_X5_fail (k_1 hK) (C := RX5) (T := TX5) (N := 16) rfl rfl (Nat.lt_of_succ_le (Nat.le_of_ble_eq_true rfl)) rfl rfl (Nat.le_of_ble_eq_true rfl) ⟨Nat.le_of_ble_eq_true rfl, Nat.le_of_ble_eq_true rfl⟩ rfl (fun q_7 => ?_)
          exact w_ireturn (v := b2i q_7.1) hc hq dX5_needName_42 (nar_b2i q_7.1) rfl rfl
      · refine w_aload_n (q := 38) (i := 0) (j := 0) hc dX5_needName_37 rfl rfl rfl ?_
        refine w_iconst (q := 39) hc dX5_needName_38 ci_2 rfl ?_
        refine w_callV_Wz (q := 42) (st := []) (args := [.int 2]) (p := 1) hc (m_X5_fail hK hR) dX5_needName_39 ml_X5_96 cf_X5_fail iv_X5_fail (k_1 hK) (C := RX5) (T := TX5) (N := 16) rfl rfl (Nat.lt_of_succ_le (Nat.le_of_ble_eq_true rfl)) rfl rfl (Nat.le_of_ble_eq_true rfl) ⟨Nat.le_of_ble_eq_true rfl, Nat.le_of_ble_eq_true rfl⟩ rfl (fun q_5 => ?_)
        exact w_ireturn (v := b2i q_5.1) hc hq dX5_needName_42 (nar_b2i q_5.1) rfl rfl
    · refine w_aload_n (q := 38) (i := 0) (j := 0) hc dX5_needName_37 rfl rfl rfl ?_
      refine w_iconst (q := 39) hc dX5_needName_38 ci_2 rfl ?_
      refine w_callV_Wz (q := 42) (st := []) (args := [.int 2]) (p := 1) hc (m_X5_fail hK hR) dX5_needName_39 ml_X5_96 cf_X5_fail iv_X5_fail (k_1 hK) (C := RX5) (T := TX5) (N := 16) rfl rfl (Nat.lt_of_succ_le (Nat.le_of_ble_eq_true rfl)) rfl rfl (Nat.le_of_ble_eq_true rfl) ⟨Nat.le_of_ble_eq_true rfl, Nat.le_of_ble_eq_true rfl⟩ rfl (fun q_3 => ?_)
      exact w_ireturn (v := b2i q_3.1) hc hq dX5_needName_42 (nar_b2i q_3.1) rfl rfl
set_option maxRecDepth 100000 in
set_option maxHeartbeats 4000000 in
theorem wl_X5_isSameAt_2 {G : GT Bool} {rm : Nat} (v1_1 : Int32) (I : MI) (L : ML) (hc : Cx G cX5_isSameAt yX5_isSameAt.cls (some .boolean) 0 0) (hq : RetQ G anZ (meR I L)) (hK : gK G = lK rm) (hR : gR G = lR rm) (hn : gnL G = 3) : ∀ (n : Nat) (v2_2 : Int32), WW G 2 [(0, .ref 1), (1, .int v1_1), (2, .int v2_2)] [] I L (f_X5_isSameAt_2 v1_1 I L n v2_2) := by
  have hN : ∀ i, Nat.blt i 3 = true → i < gnL G := fun i h => hn ▸ Nat.blt_eq.mp h
  intro n
  induction n with
  | zero => intros; exact w_none _ _ _
  | succ n ih =>
    intros v2_2
    rw [f_X5_isSameAt_2]
    refine w_iload_n (q := 3) (i := 2) (j := 2) hc dX5_isSameAt_2 rfl rfl rfl ?_
    refine w_aload_n (q := 4) (i := 0) (j := 0) hc dX5_isSameAt_3 rfl rfl rfl ?_
    refine gf_X5_22 (q := 7) hc dX5_isSameAt_4 (k_1 hK) rfl ?_
    refine w_aload_n (q := 8) (i := 0) (j := 0) hc dX5_isSameAt_7 rfl rfl rfl ?_
    refine gf_X5_28 (q := 11) hc dX5_isSameAt_8 (k_1 hK) rfl ?_
    refine w_isub (q := 12) hc dX5_isSameAt_11  rfl ?_
    refine w_icmpge (q := 15) (tgt := 45) hc dX5_isSameAt_12 rfl rfl ?_ ?_
    · refine w_iconst (q := 46) hc dX5_isSameAt_45 ci_1 rfl ?_
      exact w_ireturn (v := b2i true) hc hq dX5_isSameAt_46 (nar_b2i true) rfl rfl
    · refine w_aload_n (q := 16) (i := 0) (j := 0) hc dX5_isSameAt_15 rfl rfl rfl ?_
      refine gf_X5_11 (q := 19) hc dX5_isSameAt_16 (k_1 hK) (r_1_0 hR) rfl ?_
      refine w_iload_n (q := 20) (i := 1) (j := 1) hc dX5_isSameAt_19 rfl rfl rfl ?_
      refine w_iload_n (q := 21) (i := 2) (j := 2) hc dX5_isSameAt_20 rfl rfl rfl ?_
      refine w_iadd (q := 22) hc dX5_isSameAt_21  rfl ?_
      refine w_bald (q := 23) hc dX5_isSameAt_22 (k_2 hK) rfl ?_
      refine w_aload_n (q := 24) (i := 0) (j := 0) hc dX5_isSameAt_23 rfl rfl rfl ?_
      refine gf_X5_11 (q := 27) hc dX5_isSameAt_24 (k_1 hK) (r_1_0 hR) rfl ?_
      refine w_aload_n (q := 28) (i := 0) (j := 0) hc dX5_isSameAt_27 rfl rfl rfl ?_
      refine gf_X5_28 (q := 31) hc dX5_isSameAt_28 (k_1 hK) rfl ?_
      refine w_iload_n (q := 32) (i := 2) (j := 2) hc dX5_isSameAt_31 rfl rfl rfl ?_
      refine w_iadd (q := 33) hc dX5_isSameAt_32  rfl ?_
      refine w_bald (q := 34) hc dX5_isSameAt_33 (k_2 hK) rfl ?_
      refine w_icmpeq (q := 37) (tgt := 39) hc dX5_isSameAt_34 rfl rfl ?_ ?_
      · refine w_iincB (q := 42) (i := 2) (j := 2) (lv' := fun v2_3 => [(2, .int v2_3), (0, .ref 1), (1, .int v1_1)]) hc dX5_isSameAt_39 rfl ci_1 (hN 2 rfl) (fun _ => rfl) rfl (fun v2_3 => ?_)
        refine w_goto (tgt := 2) hc dX5_isSameAt_42 rfl ?_
        refine w_sub [1, 2, 0] rfl ?_
        exact ih v2_3
      · refine w_iconst (q := 38) hc dX5_isSameAt_37 ci_0 rfl ?_
        exact w_ireturn (v := b2i false) hc hq dX5_isSameAt_38 (nar_b2i false) rfl rfl
set_option maxRecDepth 100000 in
set_option maxHeartbeats 4000000 in
theorem m_X5_isSameAt {l : Launch} {K : KT} {R : MR} {rm : Nat} {a1 : Int32} {I : MI} {L : ML} (hK0 : K = lK rm) (hR0 : R = lR rm) : MFg l yX5_isSameAt cX5_isSameAt 3 (some .boolean) 0 0 [.ref 1, .int a1] K R I L anZ (meR I L) (f_X5_isSameAt a1 I L) := by
  refine mf_of (plainFor_of_name (by decide)) (Nat.le_of_ble_eq_true rfl) ?_
  intro G hc _ hK1 hR1 hn hq
  have hK := hK1.trans hK0
  have hR := hR1.trans hR0
  have hN : ∀ i, Nat.blt i 3 = true → i < gnL G := fun i h => hn ▸ Nat.blt_eq.mp h
  unfold f_X5_isSameAt
  show WW G 0 [(0, .ref 1), (1, .int a1)] [] I L _
  refine w_iconst (q := 1) hc dX5_isSameAt_0 ci_0 rfl ?_
  refine w_istore_n (q := 2) (i := 2) (lv' := [(2, .int 0), (0, .ref 1), (1, .int a1)]) hc dX5_isSameAt_1 rfl (hN 2 rfl) rfl rfl ?_
  refine w_sub [1, 2, 0] rfl ?_
  exact wl_X5_isSameAt_2 a1 I L hc hq hK hR hn FU 0
set_option maxRecDepth 100000 in
set_option maxHeartbeats 4000000 in
theorem wl_X5_named_2 {G : GT Int32} {rm : Nat} (I : MI) (L : ML) (hc : Cx G cX5_named yX5_named.cls (some .int) 1 22) (hq : RetQ G anI (meR I L)) (hK : gK G = lK rm) (hR : gR G = lR rm) (hn : gnL G = 2) : ∀ (n : Nat) (v1_1 : Int32), WW G 2 [(0, .ref 1), (1, .int v1_1)] [] I L (f_X5_named_2 I L n v1_1) := by
  have hN : ∀ i, Nat.blt i 2 = true → i < gnL G := fun i h => hn ▸ Nat.blt_eq.mp h
  intro n
  induction n with
  | zero => intros; exact w_none _ _ _
  | succ n ih =>
    intros v1_1
    rw [f_X5_named_2]
    refine w_iload_n (q := 3) (i := 1) (j := 1) hc dX5_named_2 rfl rfl rfl ?_
    refine w_aload_n (q := 4) (i := 0) (j := 0) hc dX5_named_3 rfl rfl rfl ?_
    refine gf_X5_37 (q := 7) hc dX5_named_4 (k_1 hK) rfl ?_
    refine w_icmpge (q := 10) (tgt := 49) hc dX5_named_7 rfl rfl ?_ ?_
    · refine w_iconst (q := 50) hc dX5_named_49 ci_m1 rfl ?_
      exact w_ireturn (v := (-1)) hc hq dX5_named_50 rfl rfl rfl
    · refine w_aload_n (q := 11) (i := 0) (j := 0) hc dX5_named_10 rfl rfl rfl ?_
      refine gf_X5_48 (q := 14) hc dX5_named_11 (k_1 hK) (r_1_11 hR) rfl ?_
      refine w_iload_n (q := 15) (i := 1) (j := 1) hc dX5_named_14 rfl rfl rfl ?_
      refine w_iald (q := 16) hc dX5_named_15 (k_5 hK) rfl ?_
      refine w_aload_n (q := 17) (i := 0) (j := 0) hc dX5_named_16 rfl rfl rfl ?_
      refine gf_X5_22 (q := 20) hc dX5_named_17 (k_1 hK) rfl ?_
      refine w_aload_n (q := 21) (i := 0) (j := 0) hc dX5_named_20 rfl rfl rfl ?_
      refine gf_X5_28 (q := 24) hc dX5_named_21 (k_1 hK) rfl ?_
      refine w_isub (q := 25) hc dX5_named_24  rfl ?_
      refine w_icmpne (q := 28) (tgt := 43) hc dX5_named_25 rfl rfl ?_ ?_
      · refine w_aload_n (q := 29) (i := 0) (j := 0) hc dX5_named_28 rfl rfl rfl ?_
        refine w_aload_n (q := 30) (i := 0) (j := 0) hc dX5_named_29 rfl rfl rfl ?_
        refine gf_X5_44 (q := 33) hc dX5_named_30 (k_1 hK) (r_1_10 hR) rfl ?_
        refine w_iload_n (q := 34) (i := 1) (j := 1) hc dX5_named_33 rfl rfl rfl ?_
        refine w_iald (q := 35) hc dX5_named_34 (k_4 hK) rfl ?_
        refine w_callV_Rz (q := 38) (st := []) (args := [.int (I 4 (ix v1_1))]) (p := 1) hc (m_X5_isSameAt hK hR) dX5_named_35 ml_X5_141 cf_X5_isSameAt iv_X5_isSameAt (k_1 hK) (C := RX5) (T := TX5) (N := 16) rfl rfl (Nat.lt_of_succ_le (Nat.le_of_ble_eq_true rfl)) rfl rfl (Nat.le_of_ble_eq_true rfl) ⟨Nat.le_of_ble_eq_true rfl, Nat.le_of_ble_eq_true rfl⟩ rfl (fun q_3 => ?_)
        refine w_ifeq (q := 41) (tgt := 43) hc dX5_named_38 rfl rfl ?_ ?_
        · refine w_iincB (q := 46) (i := 1) (j := 1) (lv' := fun v1_4 => [(1, .int v1_4), (0, .ref 1)]) hc dX5_named_43 rfl ci_1 (hN 1 rfl) (fun _ => rfl) rfl (fun v1_4 => ?_)
          refine w_goto (tgt := 2) hc dX5_named_46 rfl ?_
          refine w_sub [1, 0] rfl ?_
          exact ih v1_4
        · refine w_iload_n (q := 42) (i := 1) (j := 1) hc dX5_named_41 rfl rfl rfl ?_
          exact w_ireturn (v := v1_1) hc hq dX5_named_42 rfl rfl rfl
      · refine w_iincB (q := 46) (i := 1) (j := 1) (lv' := fun v1_2 => [(1, .int v1_2), (0, .ref 1)]) hc dX5_named_43 rfl ci_1 (hN 1 rfl) (fun _ => rfl) rfl (fun v1_2 => ?_)
        refine w_goto (tgt := 2) hc dX5_named_46 rfl ?_
        refine w_sub [1, 0] rfl ?_
        exact ih v1_2
set_option maxRecDepth 100000 in
set_option maxHeartbeats 4000000 in
theorem m_X5_named {l : Launch} {K : KT} {R : MR} {rm : Nat} {I : MI} {L : ML} (hK0 : K = lK rm) (hR0 : R = lR rm) : MFg l yX5_named cX5_named 2 (some .int) 1 22 [.ref 1] K R I L anI (meR I L) (f_X5_named I L) := by
  refine mf_of (plainFor_of_name (by decide)) (Nat.le_of_ble_eq_true rfl) ?_
  intro G hc _ hK1 hR1 hn hq
  have hK := hK1.trans hK0
  have hR := hR1.trans hR0
  have hN : ∀ i, Nat.blt i 2 = true → i < gnL G := fun i h => hn ▸ Nat.blt_eq.mp h
  unfold f_X5_named
  show WW G 0 [(0, .ref 1)] [] I L _
  refine w_iconst (q := 1) hc dX5_named_0 ci_0 rfl ?_
  refine w_istore_n (q := 2) (i := 1) (lv' := [(1, .int 0), (0, .ref 1)]) hc dX5_named_1 rfl (hN 1 rfl) rfl rfl ?_
  refine w_sub [1, 0] rfl ?_
  exact wl_X5_named_2 I L hc hq hK hR hn FU 0
set_option maxRecDepth 100000 in
set_option maxHeartbeats 4000000 in
theorem m_X5_readNewName {l : Launch} {K : KT} {R : MR} {rm : Nat} {I : MI} {L : ML} (hK0 : K = lK rm) (hR0 : R = lR rm) : MFg l yX5_readNewName cX5_readNewName 1 (some .boolean) 6 127 [.ref 1] K R I L anZW meW (f_X5_readNewName I L) := by
  refine mf_of (plainFor_of_name (by decide)) (Nat.le_of_ble_eq_true rfl) ?_
  intro G hc _ hK1 hR1 hn hq
  have hK := hK1.trans hK0
  have hR := hR1.trans hR0
  have hN : ∀ i, Nat.blt i 1 = true → i < gnL G := fun i h => hn ▸ Nat.blt_eq.mp h
  unfold f_X5_readNewName
  show WW G 0 [(0, .ref 1)] [] I L _
  refine w_aload_n (q := 1) (i := 0) (j := 0) hc dX5_readNewName_0 rfl rfl rfl ?_
  refine w_callV_Wz (q := 4) (st := []) (args := []) (p := 1) hc (m_X5_needName hK hR) dX5_readNewName_1 ml_X5_135 cf_X5_needName iv_X5_needName (k_1 hK) (C := RX5) (T := TX5) (N := 16) rfl rfl (Nat.lt_of_succ_le (Nat.le_of_ble_eq_true rfl)) rfl rfl (Nat.le_of_ble_eq_true rfl) ⟨Nat.le_of_ble_eq_true rfl, Nat.le_of_ble_eq_true rfl⟩ rfl (fun q_1 => ?_)
  refine w_ifne (q := 7) (tgt := 9) hc dX5_readNewName_4 rfl rfl ?_ ?_
  · refine w_iconst (q := 8) hc dX5_readNewName_7 ci_0 rfl ?_
    exact w_ireturn (v := b2i false) hc hq dX5_readNewName_8 (nar_b2i false) rfl rfl
  · refine w_aload_n (q := 10) (i := 0) (j := 0) hc dX5_readNewName_9 rfl rfl rfl ?_
    refine w_callV_Ri (q := 13) (st := []) (args := []) (p := 1) hc (m_X5_named hK hR) dX5_readNewName_10 ml_X5_138 cf_X5_named iv_X5_named (k_1 hK) (C := RX5) (T := TX5) (N := 16) rfl rfl (Nat.lt_of_succ_le (Nat.le_of_ble_eq_true rfl)) rfl rfl (Nat.le_of_ble_eq_true rfl) ⟨Nat.le_of_ble_eq_true rfl, Nat.le_of_ble_eq_true rfl⟩ rfl (fun q_2 => ?_)
    refine w_iflt (q := 16) (tgt := 22) hc dX5_readNewName_13 rfl rfl ?_ ?_
    · refine w_aload_n (q := 23) (i := 0) (j := 0) hc dX5_readNewName_22 rfl rfl rfl ?_
      refine gf_X5_44 (q := 26) hc dX5_readNewName_23 (k_1 hK) (r_1_10 hR) rfl ?_
      refine w_aload_n (q := 27) (i := 0) (j := 0) hc dX5_readNewName_26 rfl rfl rfl ?_
      refine gf_X5_37 (q := 30) hc dX5_readNewName_27 (k_1 hK) rfl ?_
      refine w_aload_n (q := 31) (i := 0) (j := 0) hc dX5_readNewName_30 rfl rfl rfl ?_
      refine gf_X5_28 (q := 34) hc dX5_readNewName_31 (k_1 hK) rfl ?_
      refine w_iast (q := 35) hc dX5_readNewName_34 (k_4 hK) rfl (fun I_3 => ?_)
      refine w_aload_n (q := 36) (i := 0) (j := 0) hc dX5_readNewName_35 rfl rfl rfl ?_
      refine gf_X5_48 (q := 39) hc dX5_readNewName_36 (k_1 hK) (r_1_11 hR) rfl ?_
      refine w_aload_n (q := 40) (i := 0) (j := 0) hc dX5_readNewName_39 rfl rfl rfl ?_
      refine gf_X5_37 (q := 43) hc dX5_readNewName_40 (k_1 hK) rfl ?_
      refine w_aload_n (q := 44) (i := 0) (j := 0) hc dX5_readNewName_43 rfl rfl rfl ?_
      refine gf_X5_22 (q := 47) hc dX5_readNewName_44 (k_1 hK) rfl ?_
      refine w_aload_n (q := 48) (i := 0) (j := 0) hc dX5_readNewName_47 rfl rfl rfl ?_
      refine gf_X5_28 (q := 51) hc dX5_readNewName_48 (k_1 hK) rfl ?_
      refine w_isub (q := 52) hc dX5_readNewName_51  rfl ?_
      refine w_iast (q := 53) hc dX5_readNewName_52 (k_5 hK) rfl (fun I_4 => ?_)
      refine w_aload_n (q := 54) (i := 0) (j := 0) hc dX5_readNewName_53 rfl rfl rfl ?_
      refine w_callV_Wv (q := 57) (st := []) (args := []) (p := 1) hc (m_X5_scan hK hR) dX5_readNewName_54 ml_X5_70 cf_X5_scan iv_X5_scan (k_1 hK) (C := RX5) (T := TX5) (N := 16) rfl rfl (Nat.lt_of_succ_le (Nat.le_of_ble_eq_true rfl)) rfl rfl (Nat.le_of_ble_eq_true rfl) ⟨Nat.le_of_ble_eq_true rfl, Nat.le_of_ble_eq_true rfl⟩ rfl (fun q_5 => ?_)
      refine w_iconst (q := 58) hc dX5_readNewName_57 ci_1 rfl ?_
      exact w_ireturn (v := b2i true) hc hq dX5_readNewName_58 (nar_b2i true) rfl rfl
    · refine w_aload_n (q := 17) (i := 0) (j := 0) hc dX5_readNewName_16 rfl rfl rfl ?_
      refine w_iconst (q := 18) hc dX5_readNewName_17 ci_4 rfl ?_
      refine w_callV_Wz (q := 21) (st := []) (args := [.int 4]) (p := 1) hc (m_X5_fail hK hR) dX5_readNewName_18 ml_X5_96 cf_X5_fail iv_X5_fail (k_1 hK) (C := RX5) (T := TX5) (N := 16) rfl rfl (Nat.lt_of_succ_le (Nat.le_of_ble_eq_true rfl)) rfl rfl (Nat.le_of_ble_eq_true rfl) ⟨Nat.le_of_ble_eq_true rfl, Nat.le_of_ble_eq_true rfl⟩ rfl (fun q_6 => ?_)
      exact w_ireturn (v := b2i q_6.1) hc hq dX5_readNewName_21 (nar_b2i q_6.1) rfl rfl
set_option maxRecDepth 100000 in
set_option maxHeartbeats 4000000 in
theorem wl_X5_readCycle_19 {G : GT (Bool × Mm)} {rm : Nat} (v1_3 : Int32) (hc : Cx G cX5_readCycle yX5_readCycle.cls (some .boolean) 3 61) (hq : RetQ G anZW meW) (hK : gK G = lK rm) (hR : gR G = lR rm) (hn : gnL G = 4) (k0 : MI → ML → Option (Bool × Mm)) (k1 : MI → ML → Option (Bool × Mm)) (k2 : Int32 → MI → ML → Option (Bool × Mm)) (hk0 : ∀ (I_17 : MI) (L_18 : ML), WW G 45 [(0, .ref 1)] [] I_17 L_18 (k0 I_17 L_18)) (hk1 : ∀ (I_20 : MI) (L_21 : ML), WW G 65 [(0, .ref 1)] [] I_20 L_21 (k1 I_20 L_21)) (hk2 : ∀ (v2_23 : Int32) (I_24 : MI) (L_25 : ML), WW G 122 [(0, .ref 1), (1, .int v1_3), (2, .int v2_23)] [] I_24 L_25 (k2 v2_23 I_24 L_25)) : ∀ (n : Nat) (v2_4 : Int32) (v3_5 : Int32) (I_6 : MI) (L_7 : ML), WW G 19 [(0, .ref 1), (1, .int v1_3), (2, .int v2_4), (3, .int v3_5)] [] I_6 L_7 (f_X5_readCycle_19 v1_3 k0 k1 k2 n v2_4 v3_5 I_6 L_7) := by
  have hN : ∀ i, Nat.blt i 4 = true → i < gnL G := fun i h => hn ▸ Nat.blt_eq.mp h
  intro n
  induction n with
  | zero => intros; exact w_none _ _ _
  | succ n ih =>
    intros v2_4 v3_5 I_6 L_7
    rw [f_X5_readCycle_19]
    refine w_iload_n (q := 20) (i := 3) (j := 3) hc dX5_readCycle_19 rfl rfl rfl ?_
    refine w_sipush (q := 23) hc dX5_readCycle_20 cs_400 rfl ?_
    refine w_icmpgt (q := 26) (tgt := 122) hc dX5_readCycle_23 rfl rfl ?_ ?_
    · refine w_sub [0, 1, 2] rfl ?_
      exact hk2 v2_4 I_6 L_7
    · refine w_aload_n (q := 27) (i := 0) (j := 0) hc dX5_readCycle_26 rfl rfl rfl ?_
      refine gf_X5_25 (q := 30) hc dX5_readCycle_27 (k_1 hK) rfl ?_
      refine w_iconst (q := 31) hc dX5_readCycle_30 ci_2 rfl ?_
      refine w_icmpne (q := 34) (tgt := 122) hc dX5_readCycle_31 rfl rfl ?_ ?_
      · refine w_aload_n (q := 35) (i := 0) (j := 0) hc dX5_readCycle_34 rfl rfl rfl ?_
        refine gf_X5_31 (q := 38) hc dX5_readCycle_35 (k_1 hK) rfl ?_
        refine w_aload_n (q := 39) (i := 0) (j := 0) hc dX5_readCycle_38 rfl rfl rfl ?_
        refine gf_X5_34 (q := 42) hc dX5_readCycle_39 (k_1 hK) rfl ?_
        refine w_icmplt (q := 45) (tgt := 51) hc dX5_readCycle_42 rfl rfl ?_ ?_
        · refine w_aload_n (q := 52) (i := 0) (j := 0) hc dX5_readCycle_51 rfl rfl rfl ?_
          refine gf_X5_55 (q := 55) hc dX5_readCycle_52 (k_1 hK) rfl ?_
          refine w_aload_n (q := 56) (i := 0) (j := 0) hc dX5_readCycle_55 rfl rfl rfl ?_
          refine gf_X5_31 (q := 59) hc dX5_readCycle_56 (k_1 hK) rfl ?_
          refine w_ishr (q := 60) hc dX5_readCycle_59  rfl ?_
          refine w_iconst (q := 61) hc dX5_readCycle_60 ci_1 rfl ?_
          refine w_iand (q := 62) hc dX5_readCycle_61  rfl ?_
          refine w_ifeq (q := 65) (tgt := 71) hc dX5_readCycle_62 rfl rfl ?_ ?_
          · refine w_aload_n (q := 72) (i := 0) (j := 0) hc dX5_readCycle_71 rfl rfl rfl ?_
            refine w_dup_ref (q := 73) hc dX5_readCycle_72  rfl ?_
            refine gf_X5_55 (q := 76) hc dX5_readCycle_73 (k_1 hK) rfl ?_
            refine w_iconst (q := 77) hc dX5_readCycle_76 ci_1 rfl ?_
            refine w_aload_n (q := 78) (i := 0) (j := 0) hc dX5_readCycle_77 rfl rfl rfl ?_
            refine gf_X5_31 (q := 81) hc dX5_readCycle_78 (k_1 hK) rfl ?_
            refine w_ishl (q := 82) hc dX5_readCycle_81  rfl ?_
            refine w_ior (q := 83) hc dX5_readCycle_82  rfl ?_
            refine pf_X5_55 (q := 86) hc dX5_readCycle_83 (k_1 hK) rfl (fun I_8 => ?_)
            refine w_iload_n (q := 87) (i := 2) (j := 2) hc dX5_readCycle_86 rfl rfl rfl ?_
            refine w_iconst (q := 88) hc dX5_readCycle_87 ci_m1 rfl ?_
            refine w_icmpeq (q := 91) (tgt := 107) hc dX5_readCycle_88 rfl rfl ?_ ?_
            · refine w_aload_n (q := 108) (i := 0) (j := 0) hc dX5_readCycle_107 rfl rfl rfl ?_
              refine gf_X5_31 (q := 111) hc dX5_readCycle_108 (k_1 hK) rfl ?_
              refine w_istore_nB (q := 112) (i := 2) (lv' := fun v2_9 => [(2, .int v2_9), (0, .ref 1), (1, .int v1_3), (3, .int v3_5)]) hc dX5_readCycle_111 rfl (hN 2 rfl) (fun _ => rfl) rfl (fun v2_9 => ?_)
              refine w_aload_n (q := 113) (i := 0) (j := 1) hc dX5_readCycle_112 rfl rfl rfl ?_
              refine w_callV_Wv (q := 116) (st := []) (args := []) (p := 1) hc (m_X5_scan hK hR) dX5_readCycle_113 ml_X5_70 cf_X5_scan iv_X5_scan (k_1 hK) (C := RX5) (T := TX5) (N := 16) rfl rfl (Nat.lt_of_succ_le (Nat.le_of_ble_eq_true rfl)) rfl rfl (Nat.le_of_ble_eq_true rfl) ⟨Nat.le_of_ble_eq_true rfl, Nat.le_of_ble_eq_true rfl⟩ rfl (fun q_10 => ?_)
              refine w_iincB (q := 119) (i := 3) (j := 3) (lv' := fun v3_11 => [(3, .int v3_11), (2, .int v2_9), (0, .ref 1), (1, .int v1_3)]) hc dX5_readCycle_116 rfl ci_1 (hN 3 rfl) (fun _ => rfl) rfl (fun v3_11 => ?_)
              refine w_goto (tgt := 19) hc dX5_readCycle_119 rfl ?_
              refine w_sub [2, 3, 1, 0] rfl ?_
              exact ih v2_9 v3_11 q_10.1 q_10.2
            · refine w_aload_n (q := 92) (i := 0) (j := 0) hc dX5_readCycle_91 rfl rfl rfl ?_
              refine w_aload_n (q := 93) (i := 0) (j := 0) hc dX5_readCycle_92 rfl rfl rfl ?_
              refine gf_X5_51 (q := 96) hc dX5_readCycle_93 (k_1 hK) rfl ?_
              refine w_iload_n (q := 97) (i := 2) (j := 2) hc dX5_readCycle_96 rfl rfl rfl ?_
              refine w_aload_n (q := 98) (i := 0) (j := 0) hc dX5_readCycle_97 rfl rfl rfl ?_
              refine gf_X5_31 (q := 101) hc dX5_readCycle_98 (k_1 hK) rfl ?_
              refine w_callS_Rl (q := 104) (st := [.ref 1]) (args := [.long (L_7 1 12), .int v2_4, .int (I_8 1 6)]) hc (m_X6_with hK hR) dX5_readCycle_101 ml_X5_147 cf_X6_with st_X6_with rfl rfl (Nat.le_of_ble_eq_true rfl) ⟨Nat.le_of_ble_eq_true rfl, Nat.le_of_ble_eq_true rfl⟩ rfl (fun q_12 => ?_)
              refine pf_X5_51 (q := 107) hc dX5_readCycle_104 (k_1 hK) rfl (fun L_13 => ?_)
              refine w_aload_n (q := 108) (i := 0) (j := 0) hc dX5_readCycle_107 rfl rfl rfl ?_
              refine gf_X5_31 (q := 111) hc dX5_readCycle_108 (k_1 hK) rfl ?_
              refine w_istore_nB (q := 112) (i := 2) (lv' := fun v2_14 => [(2, .int v2_14), (0, .ref 1), (1, .int v1_3), (3, .int v3_5)]) hc dX5_readCycle_111 rfl (hN 2 rfl) (fun _ => rfl) rfl (fun v2_14 => ?_)
              refine w_aload_n (q := 113) (i := 0) (j := 1) hc dX5_readCycle_112 rfl rfl rfl ?_
              refine w_callV_Wv (q := 116) (st := []) (args := []) (p := 1) hc (m_X5_scan hK hR) dX5_readCycle_113 ml_X5_70 cf_X5_scan iv_X5_scan (k_1 hK) (C := RX5) (T := TX5) (N := 16) rfl rfl (Nat.lt_of_succ_le (Nat.le_of_ble_eq_true rfl)) rfl rfl (Nat.le_of_ble_eq_true rfl) ⟨Nat.le_of_ble_eq_true rfl, Nat.le_of_ble_eq_true rfl⟩ rfl (fun q_15 => ?_)
              refine w_iincB (q := 119) (i := 3) (j := 3) (lv' := fun v3_16 => [(3, .int v3_16), (2, .int v2_14), (0, .ref 1), (1, .int v1_3)]) hc dX5_readCycle_116 rfl ci_1 (hN 3 rfl) (fun _ => rfl) rfl (fun v3_16 => ?_)
              refine w_goto (tgt := 19) hc dX5_readCycle_119 rfl ?_
              refine w_sub [2, 3, 1, 0] rfl ?_
              exact ih v2_14 v3_16 q_15.1 q_15.2
          · refine w_sub [0] rfl ?_
            exact hk1 I_6 L_7
        · refine w_sub [0] rfl ?_
          exact hk0 I_6 L_7
      · refine w_sub [0, 1, 2] rfl ?_
        exact hk2 v2_4 I_6 L_7
set_option maxRecDepth 100000 in
set_option maxHeartbeats 4000000 in
theorem m_X5_readCycle {l : Launch} {K : KT} {R : MR} {rm : Nat} {I : MI} {L : ML} (hK0 : K = lK rm) (hR0 : R = lR rm) : MFg l yX5_readCycle cX5_readCycle 4 (some .boolean) 3 61 [.ref 1] K R I L anZW meW (f_X5_readCycle I L) := by
  refine mf_of (plainFor_of_name (by decide)) (Nat.le_of_ble_eq_true rfl) ?_
  intro G hc _ hK1 hR1 hn hq
  have hK := hK1.trans hK0
  have hR := hR1.trans hR0
  have hN : ∀ i, Nat.blt i 4 = true → i < gnL G := fun i h => hn ▸ Nat.blt_eq.mp h
  unfold f_X5_readCycle
  show WW G 0 [(0, .ref 1)] [] I L _
  refine w_aload_n (q := 1) (i := 0) (j := 0) hc dX5_readCycle_0 rfl rfl rfl ?_
  refine w_iconst (q := 2) hc dX5_readCycle_1 ci_2 rfl ?_
  refine w_callV_Wz (q := 5) (st := []) (args := [.int 2]) (p := 1) hc (m_X5_need hK hR) dX5_readCycle_2 ml_X5_108 cf_X5_need iv_X5_need (k_1 hK) (C := RX5) (T := TX5) (N := 16) rfl rfl (Nat.lt_of_succ_le (Nat.le_of_ble_eq_true rfl)) rfl rfl (Nat.le_of_ble_eq_true rfl) ⟨Nat.le_of_ble_eq_true rfl, Nat.le_of_ble_eq_true rfl⟩ rfl (fun q_1 => ?_)
  refine w_ifne (q := 8) (tgt := 10) hc dX5_readCycle_5 rfl rfl ?_ ?_
  · refine w_iconst (q := 9) hc dX5_readCycle_8 ci_0 rfl ?_
    exact w_ireturn (v := b2i false) hc hq dX5_readCycle_9 (nar_b2i false) rfl rfl
  · refine w_aload_n (q := 11) (i := 0) (j := 0) hc dX5_readCycle_10 rfl rfl rfl ?_
    refine gf_X5_31 (q := 14) hc dX5_readCycle_11 (k_1 hK) rfl ?_
    refine w_istore_nB (q := 15) (i := 1) (lv' := fun v1_2 => [(1, .int v1_2), (0, .ref 1)]) hc dX5_readCycle_14 rfl (hN 1 rfl) (fun _ => rfl) rfl (fun v1_2 => ?_)
    refine w_iconst (q := 16) hc dX5_readCycle_15 ci_m1 rfl ?_
    refine w_istore_n (q := 17) (i := 2) (lv' := [(2, .int (-1)), (1, .int v1_2), (0, .ref 1)]) hc dX5_readCycle_16 rfl (hN 2 rfl) rfl rfl ?_
    refine w_iconst (q := 18) hc dX5_readCycle_17 ci_0 rfl ?_
    refine w_istore_n (q := 19) (i := 3) (lv' := [(3, .int 0), (2, .int (-1)), (1, .int v1_2), (0, .ref 1)]) hc dX5_readCycle_18 rfl (hN 3 rfl) rfl rfl ?_
    refine w_sub [3, 2, 1, 0] rfl ?_
    refine wl_X5_readCycle_19 v1_2 hc hq hK hR hn _ _ _ ?_ ?_ ?_ FU (-1) 0 q_1.2.1 q_1.2.2
    · intro I_17 L_18
      refine w_aload_n (q := 46) (i := 0) (j := 0) hc dX5_readCycle_45 rfl rfl rfl ?_
      refine w_iconst (q := 47) hc dX5_readCycle_46 ci_3 rfl ?_
      refine w_callV_Wz (q := 50) (st := []) (args := [.int 3]) (p := 1) hc (m_X5_fail hK hR) dX5_readCycle_47 ml_X5_96 cf_X5_fail iv_X5_fail (k_1 hK) (C := RX5) (T := TX5) (N := 16) rfl rfl (Nat.lt_of_succ_le (Nat.le_of_ble_eq_true rfl)) rfl rfl (Nat.le_of_ble_eq_true rfl) ⟨Nat.le_of_ble_eq_true rfl, Nat.le_of_ble_eq_true rfl⟩ rfl (fun q_19 => ?_)
      exact w_ireturn (v := b2i q_19.1) hc hq dX5_readCycle_50 (nar_b2i q_19.1) rfl rfl
    · intro I_20 L_21
      refine w_aload_n (q := 66) (i := 0) (j := 0) hc dX5_readCycle_65 rfl rfl rfl ?_
      refine w_iconst (q := 67) hc dX5_readCycle_66 ci_4 rfl ?_
      refine w_callV_Wz (q := 70) (st := []) (args := [.int 4]) (p := 1) hc (m_X5_fail hK hR) dX5_readCycle_67 ml_X5_96 cf_X5_fail iv_X5_fail (k_1 hK) (C := RX5) (T := TX5) (N := 16) rfl rfl (Nat.lt_of_succ_le (Nat.le_of_ble_eq_true rfl)) rfl rfl (Nat.le_of_ble_eq_true rfl) ⟨Nat.le_of_ble_eq_true rfl, Nat.le_of_ble_eq_true rfl⟩ rfl (fun q_22 => ?_)
      exact w_ireturn (v := b2i q_22.1) hc hq dX5_readCycle_70 (nar_b2i q_22.1) rfl rfl
    · intro v2_23 I_24 L_25
      refine w_aload_n (q := 123) (i := 0) (j := 0) hc dX5_readCycle_122 rfl rfl rfl ?_
      refine w_aload_n (q := 124) (i := 0) (j := 0) hc dX5_readCycle_123 rfl rfl rfl ?_
      refine gf_X5_51 (q := 127) hc dX5_readCycle_124 (k_1 hK) rfl ?_
      refine w_iload_n (q := 128) (i := 2) (j := 2) hc dX5_readCycle_127 rfl rfl rfl ?_
      refine w_iload_n (q := 129) (i := 1) (j := 1) hc dX5_readCycle_128 rfl rfl rfl ?_
      refine w_callS_Rl (q := 132) (st := [.ref 1]) (args := [.long (L_25 1 12), .int v2_23, .int v1_2]) hc (m_X6_with hK hR) dX5_readCycle_129 ml_X5_147 cf_X6_with st_X6_with rfl rfl (Nat.le_of_ble_eq_true rfl) ⟨Nat.le_of_ble_eq_true rfl, Nat.le_of_ble_eq_true rfl⟩ rfl (fun q_26 => ?_)
      refine pf_X5_51 (q := 135) hc dX5_readCycle_132 (k_1 hK) rfl (fun L_27 => ?_)
      refine w_iconst (q := 136) hc dX5_readCycle_135 ci_1 rfl ?_
      exact w_ireturn (v := b2i true) hc hq dX5_readCycle_136 (nar_b2i true) rfl rfl
set_option maxRecDepth 100000 in
set_option maxHeartbeats 4000000 in
theorem m_X5_readSign {l : Launch} {K : KT} {R : MR} {rm : Nat} {a1 : Int32} {I : MI} {L : ML} (hK0 : K = lK rm) (hR0 : R = lR rm) : MFg l yX5_readSign cX5_readSign 2 (some .boolean) 3 61 [.ref 1, .int a1] K R I L anZW meW (f_X5_readSign a1 I L) := by
  refine mf_of (plainFor_of_name (by decide)) (Nat.le_of_ble_eq_true rfl) ?_
  intro G hc _ hK1 hR1 hn hq
  have hK := hK1.trans hK0
  have hR := hR1.trans hR0
  have hN : ∀ i, Nat.blt i 2 = true → i < gnL G := fun i h => hn ▸ Nat.blt_eq.mp h
  unfold f_X5_readSign
  show WW G 0 [(0, .ref 1), (1, .int a1)] [] I L _
  refine w_aload_n (q := 1) (i := 0) (j := 0) hc dX5_readSign_0 rfl rfl rfl ?_
  refine w_iload_n (q := 2) (i := 1) (j := 1) hc dX5_readSign_1 rfl rfl rfl ?_
  refine w_callV_Wz (q := 5) (st := []) (args := [.int a1]) (p := 1) hc (m_X5_need hK hR) dX5_readSign_2 ml_X5_108 cf_X5_need iv_X5_need (k_1 hK) (C := RX5) (T := TX5) (N := 16) rfl rfl (Nat.lt_of_succ_le (Nat.le_of_ble_eq_true rfl)) rfl rfl (Nat.le_of_ble_eq_true rfl) ⟨Nat.le_of_ble_eq_true rfl, Nat.le_of_ble_eq_true rfl⟩ rfl (fun q_1 => ?_)
  refine w_ifne (q := 8) (tgt := 10) hc dX5_readSign_5 rfl rfl ?_ ?_
  · refine w_iconst (q := 9) hc dX5_readSign_8 ci_0 rfl ?_
    exact w_ireturn (v := b2i false) hc hq dX5_readSign_9 (nar_b2i false) rfl rfl
  · refine w_aload_n (q := 11) (i := 0) (j := 0) hc dX5_readSign_10 rfl rfl rfl ?_
    refine w_callV_Wv (q := 14) (st := []) (args := []) (p := 1) hc (m_X5_scan hK hR) dX5_readSign_11 ml_X5_70 cf_X5_scan iv_X5_scan (k_1 hK) (C := RX5) (T := TX5) (N := 16) rfl rfl (Nat.lt_of_succ_le (Nat.le_of_ble_eq_true rfl)) rfl rfl (Nat.le_of_ble_eq_true rfl) ⟨Nat.le_of_ble_eq_true rfl, Nat.le_of_ble_eq_true rfl⟩ rfl (fun q_2 => ?_)
    refine w_iconst (q := 15) hc dX5_readSign_14 ci_1 rfl ?_
    exact w_ireturn (v := b2i true) hc hq dX5_readSign_15 (nar_b2i true) rfl rfl
set_option maxRecDepth 100000 in
set_option maxHeartbeats 4000000 in
theorem wl_X5_readCycles_18 {G : GT (Bool × Mm)} {rm : Nat} (hc : Cx G cX5_readCycles yX5_readCycles.cls (some .boolean) 4 84) (hq : RetQ G anZW meW) (hK : gK G = lK rm) (hR : gR G = lR rm) (hn : gnL G = 2) : ∀ (n : Nat) (v1_3 : Int32) (I_4 : MI) (L_5 : ML), WW G 18 [(0, .ref 1), (1, .int v1_3)] [] I_4 L_5 (f_X5_readCycles_18 n v1_3 I_4 L_5) := by
  have hN : ∀ i, Nat.blt i 2 = true → i < gnL G := fun i h => hn ▸ Nat.blt_eq.mp h
  intro n
  induction n with
  | zero => intros; exact w_none _ _ _
  | succ n ih =>
    intros v1_3 I_4 L_5
    rw [f_X5_readCycles_18]
    refine w_iload_n (q := 19) (i := 1) (j := 1) hc dX5_readCycles_18 rfl rfl rfl ?_
    refine w_sipush (q := 22) hc dX5_readCycles_19 cs_400 rfl ?_
    refine w_icmpgt (q := 25) (tgt := 62) hc dX5_readCycles_22 rfl rfl ?_ ?_
    · refine w_iconst (q := 63) hc dX5_readCycles_62 ci_1 rfl ?_
      exact w_ireturn (v := b2i true) hc hq dX5_readCycles_63 (nar_b2i true) rfl rfl
    · refine w_aload_n (q := 26) (i := 0) (j := 0) hc dX5_readCycles_25 rfl rfl rfl ?_
      refine gf_X5_25 (q := 29) hc dX5_readCycles_26 (k_1 hK) rfl ?_
      refine w_bipush (q := 31) hc dX5_readCycles_29 cb_40 rfl ?_
      refine w_icmpne (q := 34) (tgt := 62) hc dX5_readCycles_31 rfl rfl ?_ ?_
      · refine w_aload_n (q := 35) (i := 0) (j := 0) hc dX5_readCycles_34 rfl rfl rfl ?_
        refine w_callV_Wv (q := 38) (st := []) (args := []) (p := 1) hc (m_X5_scan hK hR) dX5_readCycles_35 ml_X5_70 cf_X5_scan iv_X5_scan (k_1 hK) (C := RX5) (T := TX5) (N := 16) rfl rfl (Nat.lt_of_succ_le (Nat.le_of_ble_eq_true rfl)) rfl rfl (Nat.le_of_ble_eq_true rfl) ⟨Nat.le_of_ble_eq_true rfl, Nat.le_of_ble_eq_true rfl⟩ rfl (fun q_6 => ?_)
        refine w_aload_n (q := 39) (i := 0) (j := 0) hc dX5_readCycles_38 rfl rfl rfl ?_
        refine w_callV_Wz (q := 42) (st := []) (args := []) (p := 1) hc (m_X5_readCycle hK hR) dX5_readCycles_39 ml_X5_144 cf_X5_readCycle iv_X5_readCycle (k_1 hK) (C := RX5) (T := TX5) (N := 16) rfl rfl (Nat.lt_of_succ_le (Nat.le_of_ble_eq_true rfl)) rfl rfl (Nat.le_of_ble_eq_true rfl) ⟨Nat.le_of_ble_eq_true rfl, Nat.le_of_ble_eq_true rfl⟩ rfl (fun q_7 => ?_)
        refine w_ifeq (q := 45) (tgt := 54) hc dX5_readCycles_42 rfl rfl ?_ ?_
        · refine w_iconst (q := 55) hc dX5_readCycles_54 ci_0 rfl ?_
          exact w_ireturn (v := b2i false) hc hq dX5_readCycles_55 (nar_b2i false) rfl rfl
        · refine w_aload_n (q := 46) (i := 0) (j := 0) hc dX5_readCycles_45 rfl rfl rfl ?_
          refine w_bipush (q := 48) hc dX5_readCycles_46 cb_41 rfl ?_
          refine w_callV_Wz (q := 51) (st := []) (args := [.int 41]) (p := 1) hc (m_X5_readSign hK hR) dX5_readCycles_48 ml_X5_80 cf_X5_readSign iv_X5_readSign (k_1 hK) (C := RX5) (T := TX5) (N := 16) rfl rfl (Nat.lt_of_succ_le (Nat.le_of_ble_eq_true rfl)) rfl rfl (Nat.le_of_ble_eq_true rfl) ⟨Nat.le_of_ble_eq_true rfl, Nat.le_of_ble_eq_true rfl⟩ rfl (fun q_8 => ?_)
          refine w_ifne (q := 54) (tgt := 56) hc dX5_readCycles_51 rfl rfl ?_ ?_
          · refine w_iconst (q := 55) hc dX5_readCycles_54 ci_0 rfl ?_
            exact w_ireturn (v := b2i false) hc hq dX5_readCycles_55 (nar_b2i false) rfl rfl
          · refine w_iincB (q := 59) (i := 1) (j := 1) (lv' := fun v1_9 => [(1, .int v1_9), (0, .ref 1)]) hc dX5_readCycles_56 rfl ci_1 (hN 1 rfl) (fun _ => rfl) rfl (fun v1_9 => ?_)
            refine w_goto (tgt := 18) hc dX5_readCycles_59 rfl ?_
            refine w_sub [1, 0] rfl ?_
            exact ih v1_9 q_8.2.1 q_8.2.2
      · refine w_iconst (q := 63) hc dX5_readCycles_62 ci_1 rfl ?_
        exact w_ireturn (v := b2i true) hc hq dX5_readCycles_63 (nar_b2i true) rfl rfl
set_option maxRecDepth 100000 in
set_option maxHeartbeats 4000000 in
theorem m_X5_readCycles {l : Launch} {K : KT} {R : MR} {rm : Nat} {I : MI} {L : ML} (hK0 : K = lK rm) (hR0 : R = lR rm) : MFg l yX5_readCycles cX5_readCycles 2 (some .boolean) 4 84 [.ref 1] K R I L anZW meW (f_X5_readCycles I L) := by
  refine mf_of (plainFor_of_name (by decide)) (Nat.le_of_ble_eq_true rfl) ?_
  intro G hc _ hK1 hR1 hn hq
  have hK := hK1.trans hK0
  have hR := hR1.trans hR0
  have hN : ∀ i, Nat.blt i 2 = true → i < gnL G := fun i h => hn ▸ Nat.blt_eq.mp h
  unfold f_X5_readCycles
  show WW G 0 [(0, .ref 1)] [] I L _
  refine w_aload_n (q := 1) (i := 0) (j := 0) hc dX5_readCycles_0 rfl rfl rfl ?_
  refine w_iconst (q := 2) hc dX5_readCycles_1 ci_0 rfl ?_
  refine pf_X5_55 (q := 5) hc dX5_readCycles_2 (k_1 hK) rfl (fun I_1 => ?_)
  refine w_aload_n (q := 6) (i := 0) (j := 0) hc dX5_readCycles_5 rfl rfl rfl ?_
  refine w_bipush (q := 8) hc dX5_readCycles_6 cb_40 rfl ?_
  refine w_callV_Wz (q := 11) (st := []) (args := [.int 40]) (p := 1) hc (m_X5_need hK hR) dX5_readCycles_8 ml_X5_108 cf_X5_need iv_X5_need (k_1 hK) (C := RX5) (T := TX5) (N := 16) rfl rfl (Nat.lt_of_succ_le (Nat.le_of_ble_eq_true rfl)) rfl rfl (Nat.le_of_ble_eq_true rfl) ⟨Nat.le_of_ble_eq_true rfl, Nat.le_of_ble_eq_true rfl⟩ rfl (fun q_2 => ?_)
  refine w_ifne (q := 14) (tgt := 16) hc dX5_readCycles_11 rfl rfl ?_ ?_
  · refine w_iconst (q := 15) hc dX5_readCycles_14 ci_0 rfl ?_
    exact w_ireturn (v := b2i false) hc hq dX5_readCycles_15 (nar_b2i false) rfl rfl
  · refine w_iconst (q := 17) hc dX5_readCycles_16 ci_0 rfl ?_
    refine w_istore_n (q := 18) (i := 1) (lv' := [(1, .int 0), (0, .ref 1)]) hc dX5_readCycles_17 rfl (hN 1 rfl) rfl rfl ?_
    refine w_sub [1, 0] rfl ?_
    exact wl_X5_readCycles_18 hc hq hK hR hn FU 0 q_2.2.1 q_2.2.2
set_option maxRecDepth 100000 in
set_option maxHeartbeats 4000000 in
theorem m_X5_readItem {l : Launch} {K : KT} {R : MR} {rm : Nat} {I : MI} {L : ML} (hK0 : K = lK rm) (hR0 : R = lR rm) : MFg l yX5_readItem cX5_readItem 4 (some .boolean) 6 127 [.ref 1] K R I L anZW meW (f_X5_readItem I L) := by
  refine mf_of (plainFor_of_name (by decide)) (Nat.le_of_ble_eq_true rfl) ?_
  intro G hc _ hK1 hR1 hn hq
  have hK := hK1.trans hK0
  have hR := hR1.trans hR0
  have hN : ∀ i, Nat.blt i 4 = true → i < gnL G := fun i h => hn ▸ Nat.blt_eq.mp h
  unfold f_X5_readItem
  show WW G 0 [(0, .ref 1)] [] I L _
  refine w_aload_n (q := 1) (i := 0) (j := 0) hc dX5_readItem_0 rfl rfl rfl ?_
  refine w_callV_Wz (q := 4) (st := []) (args := []) (p := 1) hc (m_X5_needName hK hR) dX5_readItem_1 ml_X5_135 cf_X5_needName iv_X5_needName (k_1 hK) (C := RX5) (T := TX5) (N := 16) rfl rfl (Nat.lt_of_succ_le (Nat.le_of_ble_eq_true rfl)) rfl rfl (Nat.le_of_ble_eq_true rfl) ⟨Nat.le_of_ble_eq_true rfl, Nat.le_of_ble_eq_true rfl⟩ rfl (fun q_1 => ?_)
  refine w_ifne (q := 7) (tgt := 9) hc dX5_readItem_4 rfl rfl ?_ ?_
  · refine w_iconst (q := 8) hc dX5_readItem_7 ci_0 rfl ?_
    exact w_ireturn (v := b2i false) hc hq dX5_readItem_8 (nar_b2i false) rfl rfl
  · refine w_aload_n (q := 10) (i := 0) (j := 0) hc dX5_readItem_9 rfl rfl rfl ?_
    refine w_callV_Ri (q := 13) (st := []) (args := []) (p := 1) hc (m_X5_named hK hR) dX5_readItem_10 ml_X5_138 cf_X5_named iv_X5_named (k_1 hK) (C := RX5) (T := TX5) (N := 16) rfl rfl (Nat.lt_of_succ_le (Nat.le_of_ble_eq_true rfl)) rfl rfl (Nat.le_of_ble_eq_true rfl) ⟨Nat.le_of_ble_eq_true rfl, Nat.le_of_ble_eq_true rfl⟩ rfl (fun q_2 => ?_)
    refine w_istore_n (q := 14) (i := 1) (lv' := [(1, .int q_2), (0, .ref 1)]) hc dX5_readItem_13 rfl (hN 1 rfl) rfl rfl ?_
    refine w_iload_n (q := 15) (i := 1) (j := 0) hc dX5_readItem_14 rfl rfl rfl ?_
    refine w_ifge (q := 18) (tgt := 24) hc dX5_readItem_15 rfl rfl ?_ ?_
    · refine w_aload_n (q := 25) (i := 0) (j := 1) hc dX5_readItem_24 rfl rfl rfl ?_
      refine gf_X5_40 (q := 28) hc dX5_readItem_25 (k_1 hK) (r_1_9 hR) rfl ?_
      refine w_iload_n (q := 29) (i := 1) (j := 0) hc dX5_readItem_28 rfl rfl rfl ?_
      refine w_lald (q := 30) hc dX5_readItem_29 (k_3 hK) rfl ?_
      refine w_lstore_nB (q := 31) (i := 2) (lv' := fun v2_3 => [(2, .long v2_3), (1, .int q_2), (0, .ref 1)]) hc dX5_readItem_30 rfl (hN 3 rfl) (fun _ => rfl) rfl (fun v2_3 => ?_)
      refine w_aload_n (q := 32) (i := 0) (j := 2) hc dX5_readItem_31 rfl rfl rfl ?_
      refine w_callV_Wv (q := 35) (st := []) (args := []) (p := 1) hc (m_X5_scan hK hR) dX5_readItem_32 ml_X5_70 cf_X5_scan iv_X5_scan (k_1 hK) (C := RX5) (T := TX5) (N := 16) rfl rfl (Nat.lt_of_succ_le (Nat.le_of_ble_eq_true rfl)) rfl rfl (Nat.le_of_ble_eq_true rfl) ⟨Nat.le_of_ble_eq_true rfl, Nat.le_of_ble_eq_true rfl⟩ rfl (fun q_4 => ?_)
      refine w_aload_n (q := 36) (i := 0) (j := 2) hc dX5_readItem_35 rfl rfl rfl ?_
      refine gf_X5_25 (q := 39) hc dX5_readItem_36 (k_1 hK) rfl ?_
      refine w_bipush (q := 41) hc dX5_readItem_39 cb_39 rfl ?_
      refine w_icmpne (q := 44) (tgt := 57) hc dX5_readItem_41 rfl rfl ?_ ?_
      · refine w_lload_n (q := 45) (i := 2) (j := 0) hc dX5_readItem_44 rfl rfl rfl ?_
        refine w_aload_n (q := 46) (i := 0) (j := 2) hc dX5_readItem_45 rfl rfl rfl ?_
        refine gf_X5_34 (q := 49) hc dX5_readItem_46 (k_1 hK) rfl ?_
        refine w_callS_Rl (q := 52) (st := []) (args := [.long v2_3, .int (q_4.1 1 7)]) hc (m_X6_invert hK hR) dX5_readItem_49 ml_X5_154 cf_X6_invert st_X6_invert rfl rfl (Nat.le_of_ble_eq_true rfl) ⟨Nat.le_of_ble_eq_true rfl, Nat.le_of_ble_eq_true rfl⟩ rfl (fun q_7 => ?_)
        refine w_lstore_n (q := 53) (i := 2) (lv' := [(2, .long q_7), (1, .int q_2), (0, .ref 1)]) hc dX5_readItem_52 rfl (hN 3 rfl) rfl rfl ?_
        refine w_aload_n (q := 54) (i := 0) (j := 2) hc dX5_readItem_53 rfl rfl rfl ?_
        refine w_callV_Wv (q := 57) (st := []) (args := []) (p := 1) hc (m_X5_scan hK hR) dX5_readItem_54 ml_X5_70 cf_X5_scan iv_X5_scan (k_1 hK) (C := RX5) (T := TX5) (N := 16) rfl rfl (Nat.lt_of_succ_le (Nat.le_of_ble_eq_true rfl)) rfl rfl (Nat.le_of_ble_eq_true rfl) ⟨Nat.le_of_ble_eq_true rfl, Nat.le_of_ble_eq_true rfl⟩ rfl (fun q_8 => ?_)
        refine w_aload_n (q := 58) (i := 0) (j := 2) hc dX5_readItem_57 rfl rfl rfl ?_
        refine w_aload_n (q := 59) (i := 0) (j := 2) hc dX5_readItem_58 rfl rfl rfl ?_
        refine gf_X5_51 (q := 62) hc dX5_readItem_59 (k_1 hK) rfl ?_
        refine w_lload_n (q := 63) (i := 2) (j := 0) hc dX5_readItem_62 rfl rfl rfl ?_
        refine w_aload_n (q := 64) (i := 0) (j := 2) hc dX5_readItem_63 rfl rfl rfl ?_
        refine gf_X5_34 (q := 67) hc dX5_readItem_64 (k_1 hK) rfl ?_
        refine w_callS_Rl (q := 70) (st := [.ref 1]) (args := [.long (q_8.2 1 12), .long q_7, .int (q_8.1 1 7)]) hc (m_X6_compose hK hR) dX5_readItem_67 ml_X5_158 cf_X6_compose st_X6_compose rfl rfl (Nat.le_of_ble_eq_true rfl) ⟨Nat.le_of_ble_eq_true rfl, Nat.le_of_ble_eq_true rfl⟩ rfl (fun q_9 => ?_)
        refine pf_X5_51 (q := 73) hc dX5_readItem_70 (k_1 hK) rfl (fun L_10 => ?_)
        refine w_iconst (q := 74) hc dX5_readItem_73 ci_1 rfl ?_
        exact w_ireturn (v := b2i true) hc hq dX5_readItem_74 (nar_b2i true) rfl rfl
      · refine w_aload_n (q := 58) (i := 0) (j := 2) hc dX5_readItem_57 rfl rfl rfl ?_
        refine w_aload_n (q := 59) (i := 0) (j := 2) hc dX5_readItem_58 rfl rfl rfl ?_
        refine gf_X5_51 (q := 62) hc dX5_readItem_59 (k_1 hK) rfl ?_
        refine w_lload_n (q := 63) (i := 2) (j := 0) hc dX5_readItem_62 rfl rfl rfl ?_
        refine w_aload_n (q := 64) (i := 0) (j := 2) hc dX5_readItem_63 rfl rfl rfl ?_
        refine gf_X5_34 (q := 67) hc dX5_readItem_64 (k_1 hK) rfl ?_
        refine w_callS_Rl (q := 70) (st := [.ref 1]) (args := [.long (q_4.2 1 12), .long v2_3, .int (q_4.1 1 7)]) hc (m_X6_compose hK hR) dX5_readItem_67 ml_X5_158 cf_X6_compose st_X6_compose rfl rfl (Nat.le_of_ble_eq_true rfl) ⟨Nat.le_of_ble_eq_true rfl, Nat.le_of_ble_eq_true rfl⟩ rfl (fun q_5 => ?_)
        refine pf_X5_51 (q := 73) hc dX5_readItem_70 (k_1 hK) rfl (fun L_6 => ?_)
        refine w_iconst (q := 74) hc dX5_readItem_73 ci_1 rfl ?_
        exact w_ireturn (v := b2i true) hc hq dX5_readItem_74 (nar_b2i true) rfl rfl
    · refine w_aload_n (q := 19) (i := 0) (j := 1) hc dX5_readItem_18 rfl rfl rfl ?_
      refine w_iconst (q := 20) hc dX5_readItem_19 ci_4 rfl ?_
      refine w_callV_Wz (q := 23) (st := []) (args := [.int 4]) (p := 1) hc (m_X5_fail hK hR) dX5_readItem_20 ml_X5_96 cf_X5_fail iv_X5_fail (k_1 hK) (C := RX5) (T := TX5) (N := 16) rfl rfl (Nat.lt_of_succ_le (Nat.le_of_ble_eq_true rfl)) rfl rfl (Nat.le_of_ble_eq_true rfl) ⟨Nat.le_of_ble_eq_true rfl, Nat.le_of_ble_eq_true rfl⟩ rfl (fun q_11 => ?_)
      exact w_ireturn (v := b2i q_11.1) hc hq dX5_readItem_23 (nar_b2i q_11.1) rfl rfl
set_option maxRecDepth 100000 in
set_option maxHeartbeats 4000000 in
theorem wl_X5_readItems_12 {G : GT (Bool × Mm)} {rm : Nat} (hc : Cx G cX5_readItems yX5_readItems.cls (some .boolean) 7 150) (hq : RetQ G anZW meW) (hK : gK G = lK rm) (hR : gR G = lR rm) (hn : gnL G = 2) : ∀ (n : Nat) (v1_2 : Int32) (I_3 : MI) (L_4 : ML), WW G 12 [(0, .ref 1), (1, .int v1_2)] [] I_3 L_4 (f_X5_readItems_12 n v1_2 I_3 L_4) := by
  have hN : ∀ i, Nat.blt i 2 = true → i < gnL G := fun i h => hn ▸ Nat.blt_eq.mp h
  intro n
  induction n with
  | zero => intros; exact w_none _ _ _
  | succ n ih =>
    intros v1_2 I_3 L_4
    rw [f_X5_readItems_12]
    refine w_iload_n (q := 13) (i := 1) (j := 1) hc dX5_readItems_12 rfl rfl rfl ?_
    refine w_sipush (q := 16) hc dX5_readItems_13 cs_400 rfl ?_
    refine w_icmpgt (q := 19) (tgt := 42) hc dX5_readItems_16 rfl rfl ?_ ?_
    · refine w_iconst (q := 43) hc dX5_readItems_42 ci_1 rfl ?_
      exact w_ireturn (v := b2i true) hc hq dX5_readItems_43 (nar_b2i true) rfl rfl
    · refine w_aload_n (q := 20) (i := 0) (j := 0) hc dX5_readItems_19 rfl rfl rfl ?_
      refine gf_X5_25 (q := 23) hc dX5_readItems_20 (k_1 hK) rfl ?_
      refine w_iconst (q := 24) hc dX5_readItems_23 ci_1 rfl ?_
      refine w_icmpne (q := 27) (tgt := 42) hc dX5_readItems_24 rfl rfl ?_ ?_
      · refine w_aload_n (q := 28) (i := 0) (j := 0) hc dX5_readItems_27 rfl rfl rfl ?_
        refine w_callV_Wz (q := 31) (st := []) (args := []) (p := 1) hc (m_X5_readItem hK hR) dX5_readItems_28 ml_X5_151 cf_X5_readItem iv_X5_readItem (k_1 hK) (C := RX5) (T := TX5) (N := 16) rfl rfl (Nat.lt_of_succ_le (Nat.le_of_ble_eq_true rfl)) rfl rfl (Nat.le_of_ble_eq_true rfl) ⟨Nat.le_of_ble_eq_true rfl, Nat.le_of_ble_eq_true rfl⟩ rfl (fun q_5 => ?_)
        refine w_ifne (q := 34) (tgt := 36) hc dX5_readItems_31 rfl rfl ?_ ?_
        · refine w_iconst (q := 35) hc dX5_readItems_34 ci_0 rfl ?_
          exact w_ireturn (v := b2i false) hc hq dX5_readItems_35 (nar_b2i false) rfl rfl
        · refine w_iincB (q := 39) (i := 1) (j := 1) (lv' := fun v1_6 => [(1, .int v1_6), (0, .ref 1)]) hc dX5_readItems_36 rfl ci_1 (hN 1 rfl) (fun _ => rfl) rfl (fun v1_6 => ?_)
          refine w_goto (tgt := 12) hc dX5_readItems_39 rfl ?_
          refine w_sub [1, 0] rfl ?_
          exact ih v1_6 q_5.2.1 q_5.2.2
      · refine w_iconst (q := 43) hc dX5_readItems_42 ci_1 rfl ?_
        exact w_ireturn (v := b2i true) hc hq dX5_readItems_43 (nar_b2i true) rfl rfl
set_option maxRecDepth 100000 in
set_option maxHeartbeats 4000000 in
theorem m_X5_readItems {l : Launch} {K : KT} {R : MR} {rm : Nat} {I : MI} {L : ML} (hK0 : K = lK rm) (hR0 : R = lR rm) : MFg l yX5_readItems cX5_readItems 2 (some .boolean) 7 150 [.ref 1] K R I L anZW meW (f_X5_readItems I L) := by
  refine mf_of (plainFor_of_name (by decide)) (Nat.le_of_ble_eq_true rfl) ?_
  intro G hc _ hK1 hR1 hn hq
  have hK := hK1.trans hK0
  have hR := hR1.trans hR0
  have hN : ∀ i, Nat.blt i 2 = true → i < gnL G := fun i h => hn ▸ Nat.blt_eq.mp h
  unfold f_X5_readItems
  show WW G 0 [(0, .ref 1)] [] I L _
  refine w_aload_n (q := 1) (i := 0) (j := 0) hc dX5_readItems_0 rfl rfl rfl ?_
  refine w_iconst (q := 2) hc dX5_readItems_1 ci_1 rfl ?_
  refine w_callV_Wz (q := 5) (st := []) (args := [.int 1]) (p := 1) hc (m_X5_need hK hR) dX5_readItems_2 ml_X5_108 cf_X5_need iv_X5_need (k_1 hK) (C := RX5) (T := TX5) (N := 16) rfl rfl (Nat.lt_of_succ_le (Nat.le_of_ble_eq_true rfl)) rfl rfl (Nat.le_of_ble_eq_true rfl) ⟨Nat.le_of_ble_eq_true rfl, Nat.le_of_ble_eq_true rfl⟩ rfl (fun q_1 => ?_)
  refine w_ifne (q := 8) (tgt := 10) hc dX5_readItems_5 rfl rfl ?_ ?_
  · refine w_iconst (q := 9) hc dX5_readItems_8 ci_0 rfl ?_
    exact w_ireturn (v := b2i false) hc hq dX5_readItems_9 (nar_b2i false) rfl rfl
  · refine w_iconst (q := 11) hc dX5_readItems_10 ci_0 rfl ?_
    refine w_istore_n (q := 12) (i := 1) (lv' := [(1, .int 0), (0, .ref 1)]) hc dX5_readItems_11 rfl (hN 1 rfl) rfl rfl ?_
    refine w_sub [1, 0] rfl ?_
    exact wl_X5_readItems_12 hc hq hK hR hn FU 0 q_1.2.1 q_1.2.2
set_option maxRecDepth 100000 in
set_option maxHeartbeats 4000000 in
theorem m_X5_readMove {l : Launch} {K : KT} {R : MR} {rm : Nat} {I : MI} {L : ML} (hK0 : K = lK rm) (hR0 : R = lR rm) : MFg l yX5_readMove cX5_readMove 2 (some .boolean) 8 171 [.ref 1] K R I L anZW meW (f_X5_readMove I L) := by
  refine mf_of (plainFor_of_name (by decide)) (Nat.le_of_ble_eq_true rfl) ?_
  intro G hc _ hK1 hR1 hn hq
  have hK := hK1.trans hK0
  have hR := hR1.trans hR0
  have hN : ∀ i, Nat.blt i 2 = true → i < gnL G := fun i h => hn ▸ Nat.blt_eq.mp h
  unfold f_X5_readMove
  show WW G 0 [(0, .ref 1)] [] I L _
  refine w_aload_n (q := 1) (i := 0) (j := 0) hc dX5_readMove_0 rfl rfl rfl ?_
  refine w_iconst (q := 2) hc dX5_readMove_1 ci_1 rfl ?_
  refine w_callV_Wz (q := 5) (st := []) (args := [.int 1]) (p := 1) hc (m_X5_need hK hR) dX5_readMove_2 ml_X5_108 cf_X5_need iv_X5_need (k_1 hK) (C := RX5) (T := TX5) (N := 16) rfl rfl (Nat.lt_of_succ_le (Nat.le_of_ble_eq_true rfl)) rfl rfl (Nat.le_of_ble_eq_true rfl) ⟨Nat.le_of_ble_eq_true rfl, Nat.le_of_ble_eq_true rfl⟩ rfl (fun q_1 => ?_)
  refine w_ifne (q := 8) (tgt := 10) hc dX5_readMove_5 rfl rfl ?_ ?_
  · refine w_iconst (q := 9) hc dX5_readMove_8 ci_0 rfl ?_
    exact w_ireturn (v := b2i false) hc hq dX5_readMove_9 (nar_b2i false) rfl rfl
  · refine w_aload_n (q := 11) (i := 0) (j := 0) hc dX5_readMove_10 rfl rfl rfl ?_
    refine w_ldcS1 (q := 13) hc dX5_readMove_11  rfl ?_
    refine w_callV_Rz (q := 16) (st := []) (args := [.ref 1000001]) (p := 1) hc (m_X5_says hK hR (by decide)) dX5_readMove_13 ml_X5_112 cf_X5_says iv_X5_says (k_1 hK) (C := RX5) (T := TX5) (N := 16) rfl rfl (Nat.lt_of_succ_le (Nat.le_of_ble_eq_true rfl)) rfl rfl (Nat.le_of_ble_eq_true rfl) ⟨Nat.le_of_ble_eq_true rfl, Nat.le_of_ble_eq_true rfl⟩ rfl (fun q_2 => ?_)
    refine w_istore_nB (q := 17) (i := 1) (lv' := fun v1_3 => [(1, .int v1_3), (0, .ref 1)]) hc dX5_readMove_16 rfl (hN 1 rfl) (fun _ => rfl) rfl (fun v1_3 => ?_)
    refine w_iload_n (q := 18) (i := 1) (j := 0) hc dX5_readMove_17 rfl rfl rfl ?_
    refine w_join (fun j36_52 : Option (Bool × Mm) => WW G 36 [(0, .ref 1), (1, .int v1_3)] [] q_1.2.1 q_1.2.2 (j36_52)) ?_ ?_
    · refine w_aload_n (q := 37) (i := 0) (j := 0) hc dX5_readMove_36 rfl rfl rfl ?_
      refine gf_X5_37 (q := 40) hc dX5_readMove_37 (k_1 hK) rfl ?_
      refine w_bipush (q := 42) hc dX5_readMove_40 cb_6 rfl ?_
      refine w_icmplt (q := 45) (tgt := 51) hc dX5_readMove_42 rfl rfl ?_ ?_
      · refine w_aload_n (q := 52) (i := 0) (j := 0) hc dX5_readMove_51 rfl rfl rfl ?_
        refine w_callV_Wv (q := 55) (st := []) (args := []) (p := 1) hc (m_X5_scan hK hR) dX5_readMove_52 ml_X5_70 cf_X5_scan iv_X5_scan (k_1 hK) (C := RX5) (T := TX5) (N := 16) rfl rfl (Nat.lt_of_succ_le (Nat.le_of_ble_eq_true rfl)) rfl rfl (Nat.le_of_ble_eq_true rfl) ⟨Nat.le_of_ble_eq_true rfl, Nat.le_of_ble_eq_true rfl⟩ rfl (fun q_6 => ?_)
        refine w_aload_n (q := 56) (i := 0) (j := 0) hc dX5_readMove_55 rfl rfl rfl ?_
        refine w_callV_Wz (q := 59) (st := []) (args := []) (p := 1) hc (m_X5_readNewName hK hR) dX5_readMove_56 ml_X5_120 cf_X5_readNewName iv_X5_readNewName (k_1 hK) (C := RX5) (T := TX5) (N := 16) rfl rfl (Nat.lt_of_succ_le (Nat.le_of_ble_eq_true rfl)) rfl rfl (Nat.le_of_ble_eq_true rfl) ⟨Nat.le_of_ble_eq_true rfl, Nat.le_of_ble_eq_true rfl⟩ rfl (fun q_7 => ?_)
        refine w_ifne (q := 62) (tgt := 64) hc dX5_readMove_59 rfl rfl ?_ ?_
        · refine w_iconst (q := 63) hc dX5_readMove_62 ci_0 rfl ?_
          exact w_ireturn (v := b2i false) hc hq dX5_readMove_63 (nar_b2i false) rfl rfl
        · refine w_aload_n (q := 65) (i := 0) (j := 0) hc dX5_readMove_64 rfl rfl rfl ?_
          refine w_aload_n (q := 66) (i := 0) (j := 0) hc dX5_readMove_65 rfl rfl rfl ?_
          refine gf_X5_34 (q := 69) hc dX5_readMove_66 (k_1 hK) rfl ?_
          refine w_callS_Rl (q := 72) (st := [.ref 1]) (args := [.int (q_7.2.1 1 7)]) hc (m_X6_identity hK hR) dX5_readMove_69 ml_X5_123 cf_X6_identity st_X6_identity rfl rfl (Nat.le_of_ble_eq_true rfl) ⟨Nat.le_of_ble_eq_true rfl, Nat.le_of_ble_eq_true rfl⟩ rfl (fun q_8 => ?_)
          refine pf_X5_51 (q := 75) hc dX5_readMove_72 (k_1 hK) rfl (fun L_9 => ?_)
          refine w_iload_n (q := 76) (i := 1) (j := 1) hc dX5_readMove_75 rfl rfl rfl ?_
          refine w_join (fun j98_53 : MI → ML → Option (Bool × Mm) => ∀ (I_12 : MI) (L_13 : ML), WW G 98 [(0, .ref 1)] [] I_12 L_13 (j98_53 I_12 L_13)) ?_ ?_
          · intro I_12 L_13
            refine w_aload_n (q := 99) (i := 0) (j := 0) hc dX5_readMove_98 rfl rfl rfl ?_
            refine gf_X5_40 (q := 102) hc dX5_readMove_99 (k_1 hK) (r_1_9 hR) rfl ?_
            refine w_aload_n (q := 103) (i := 0) (j := 0) hc dX5_readMove_102 rfl rfl rfl ?_
            refine gf_X5_37 (q := 106) hc dX5_readMove_103 (k_1 hK) rfl ?_
            refine w_aload_n (q := 107) (i := 0) (j := 0) hc dX5_readMove_106 rfl rfl rfl ?_
            refine gf_X5_51 (q := 110) hc dX5_readMove_107 (k_1 hK) rfl ?_
            refine w_last (q := 111) hc dX5_readMove_110 (k_3 hK) rfl (fun L_14 => ?_)
            refine w_aload_n (q := 112) (i := 0) (j := 0) hc dX5_readMove_111 rfl rfl rfl ?_
            refine w_dup_ref (q := 113) hc dX5_readMove_112  rfl ?_
            refine gf_X5_37 (q := 116) hc dX5_readMove_113 (k_1 hK) rfl ?_
            refine w_iconst (q := 117) hc dX5_readMove_116 ci_1 rfl ?_
            refine w_iadd (q := 118) hc dX5_readMove_117  rfl ?_
            refine pf_X5_37 (q := 121) hc dX5_readMove_118 (k_1 hK) rfl (fun I_15 => ?_)
            refine w_iconst (q := 122) hc dX5_readMove_121 ci_1 rfl ?_
            exact w_ireturn (v := b2i true) hc hq dX5_readMove_122 (nar_b2i true) rfl rfl
          · intro j98_53 hj98_53
            refine w_ifeq (q := 79) (tgt := 89) hc dX5_readMove_76 rfl rfl ?_ ?_
            · refine w_aload_n (q := 90) (i := 0) (j := 0) hc dX5_readMove_89 rfl rfl rfl ?_
              refine w_callV_Wz (q := 93) (st := []) (args := []) (p := 1) hc (m_X5_readItems hK hR) dX5_readMove_90 ml_X5_132 cf_X5_readItems iv_X5_readItems (k_1 hK) (C := RX5) (T := TX5) (N := 16) rfl rfl (Nat.lt_of_succ_le (Nat.le_of_ble_eq_true rfl)) rfl rfl (Nat.le_of_ble_eq_true rfl) ⟨Nat.le_of_ble_eq_true rfl, Nat.le_of_ble_eq_true rfl⟩ rfl (fun q_10 => ?_)
              refine w_ifne (q := 96) (tgt := 98) hc dX5_readMove_93 rfl rfl ?_ ?_
              · refine w_iconst (q := 97) hc dX5_readMove_96 ci_0 rfl ?_
                exact w_ireturn (v := b2i false) hc hq dX5_readMove_97 (nar_b2i false) rfl rfl
              · refine w_sub [0] rfl ?_
                exact hj98_53 q_10.2.1 q_10.2.2
            · refine w_aload_n (q := 80) (i := 0) (j := 0) hc dX5_readMove_79 rfl rfl rfl ?_
              refine w_callV_Wz (q := 83) (st := []) (args := []) (p := 1) hc (m_X5_readCycles hK hR) dX5_readMove_80 ml_X5_129 cf_X5_readCycles iv_X5_readCycles (k_1 hK) (C := RX5) (T := TX5) (N := 16) rfl rfl (Nat.lt_of_succ_le (Nat.le_of_ble_eq_true rfl)) rfl rfl (Nat.le_of_ble_eq_true rfl) ⟨Nat.le_of_ble_eq_true rfl, Nat.le_of_ble_eq_true rfl⟩ rfl (fun q_11 => ?_)
              refine w_ifeq (q := 86) (tgt := 96) hc dX5_readMove_83 rfl rfl ?_ ?_
              · refine w_iconst (q := 97) hc dX5_readMove_96 ci_0 rfl ?_
                exact w_ireturn (v := b2i false) hc hq dX5_readMove_97 (nar_b2i false) rfl rfl
              · refine w_goto (tgt := 98) hc dX5_readMove_86 rfl ?_
                refine w_sub [0] rfl ?_
                exact hj98_53 q_11.2.1 q_11.2.2
      · refine w_aload_n (q := 46) (i := 0) (j := 0) hc dX5_readMove_45 rfl rfl rfl ?_
        refine w_iconst (q := 47) hc dX5_readMove_46 ci_5 rfl ?_
        refine w_callV_Wz (q := 50) (st := []) (args := [.int 5]) (p := 1) hc (m_X5_fail hK hR) dX5_readMove_47 ml_X5_96 cf_X5_fail iv_X5_fail (k_1 hK) (C := RX5) (T := TX5) (N := 16) rfl rfl (Nat.lt_of_succ_le (Nat.le_of_ble_eq_true rfl)) rfl rfl (Nat.le_of_ble_eq_true rfl) ⟨Nat.le_of_ble_eq_true rfl, Nat.le_of_ble_eq_true rfl⟩ rfl (fun q_16 => ?_)
        exact w_ireturn (v := b2i q_16.1) hc hq dX5_readMove_50 (nar_b2i q_16.1) rfl rfl
    · intro j36_52 hj36_52
      refine w_ifne (q := 21) (tgt := 36) hc dX5_readMove_18 rfl rfl ?_ ?_
      · refine w_aload_n (q := 22) (i := 0) (j := 1) hc dX5_readMove_21 rfl rfl rfl ?_
        refine w_ldcS2 (q := 24) hc dX5_readMove_22  rfl ?_
        refine w_callV_Rz (q := 27) (st := []) (args := [.ref 1000002]) (p := 1) hc (m_X5_says hK hR (by decide)) dX5_readMove_24 ml_X5_112 cf_X5_says iv_X5_says (k_1 hK) (C := RX5) (T := TX5) (N := 16) rfl rfl (Nat.lt_of_succ_le (Nat.le_of_ble_eq_true rfl)) rfl rfl (Nat.le_of_ble_eq_true rfl) ⟨Nat.le_of_ble_eq_true rfl, Nat.le_of_ble_eq_true rfl⟩ rfl (fun q_4 => ?_)
        refine w_ifne (q := 30) (tgt := 36) hc dX5_readMove_27 rfl rfl ?_ ?_
        · refine w_aload_n (q := 31) (i := 0) (j := 1) hc dX5_readMove_30 rfl rfl rfl ?_
          refine w_iconst (q := 32) hc dX5_readMove_31 ci_2 rfl ?_
          refine w_callV_Wz (q := 35) (st := []) (args := [.int 2]) (p := 1) hc (m_X5_fail hK hR) dX5_readMove_32 ml_X5_96 cf_X5_fail iv_X5_fail (k_1 hK) (C := RX5) (T := TX5) (N := 16) rfl rfl (Nat.lt_of_succ_le (Nat.le_of_ble_eq_true rfl)) rfl rfl (Nat.le_of_ble_eq_true rfl) ⟨Nat.le_of_ble_eq_true rfl, Nat.le_of_ble_eq_true rfl⟩ rfl (fun q_5 => ?_)
          exact w_ireturn (v := b2i q_5.1) hc hq dX5_readMove_35 (nar_b2i q_5.1) rfl rfl
        · refine w_sub [1, 0] rfl ?_
          exact hj36_52
      · refine w_sub [1, 0] rfl ?_
        exact hj36_52
set_option maxRecDepth 100000 in
set_option maxHeartbeats 4000000 in
theorem wl_X5_parse_50 {G : GT (Bool × Mm)} {rm : Nat} (hc : Cx G cX5_parse yX5_parse.cls (some .boolean) 9 192) (hq : RetQ G anZW meW) (hK : gK G = lK rm) (hR : gR G = lR rm) (hn : gnL G = 4) : ∀ (n : Nat) (v2_9 : Int32) (v3_10 : Int32) (I_11 : MI) (L_12 : ML), WW G 50 [(0, .ref 1), (2, .int v2_9), (3, .int v3_10)] [] I_11 L_12 (f_X5_parse_50 n v2_9 v3_10 I_11 L_12) := by
  have hN : ∀ i, Nat.blt i 4 = true → i < gnL G := fun i h => hn ▸ Nat.blt_eq.mp h
  intro n
  induction n with
  | zero => intros; exact w_none _ _ _
  | succ n ih =>
    intros v2_9 v3_10 I_11 L_12
    rw [f_X5_parse_50]
    refine w_iload_n (q := 51) (i := 3) (j := 2) hc dX5_parse_50 rfl rfl rfl ?_
    refine w_sipush (q := 54) hc dX5_parse_51 cs_400 rfl ?_
    refine w_icmpgt (q := 57) (tgt := 113) hc dX5_parse_54 rfl rfl ?_ ?_
    · refine w_iload_n (q := 114) (i := 2) (j := 1) hc dX5_parse_113 rfl rfl rfl ?_
      exact w_ireturnZ (v := v2_9) hc hq dX5_parse_114 (fun h => by show some (Value.int (b2i (i2z _))) = _; rw [b2i_i2z h]) rfl
    · refine w_iload_n (q := 58) (i := 2) (j := 1) hc dX5_parse_57 rfl rfl rfl ?_
      refine w_ifeq (q := 61) (tgt := 113) hc dX5_parse_58 rfl rfl ?_ ?_
      · refine w_iload_n (q := 114) (i := 2) (j := 1) hc dX5_parse_113 rfl rfl rfl ?_
        exact w_ireturnZ (v := v2_9) hc hq dX5_parse_114 (fun h => by show some (Value.int (b2i (i2z _))) = _; rw [b2i_i2z h]) rfl
      · refine w_aload_n (q := 62) (i := 0) (j := 0) hc dX5_parse_61 rfl rfl rfl ?_
        refine gf_X5_25 (q := 65) hc dX5_parse_62 (k_1 hK) rfl ?_
        refine w_ifeq (q := 68) (tgt := 113) hc dX5_parse_65 rfl rfl ?_ ?_
        · refine w_iload_n (q := 114) (i := 2) (j := 1) hc dX5_parse_113 rfl rfl rfl ?_
          exact w_ireturnZ (v := v2_9) hc hq dX5_parse_114 (fun h => by show some (Value.int (b2i (i2z _))) = _; rw [b2i_i2z h]) rfl
        · refine w_aload_n (q := 69) (i := 0) (j := 0) hc dX5_parse_68 rfl rfl rfl ?_
          refine gf_X5_34 (q := 72) hc dX5_parse_69 (k_1 hK) rfl ?_
          refine w_ifne (q := 75) (tgt := 85) hc dX5_parse_72 rfl rfl ?_ ?_
          · refine w_aload_n (q := 76) (i := 0) (j := 0) hc dX5_parse_75 rfl rfl rfl ?_
            refine w_callV_Wz (q := 79) (st := []) (args := []) (p := 1) hc (m_X5_readPoints hK hR) dX5_parse_76 ml_X5_73 cf_X5_readPoints iv_X5_readPoints (k_1 hK) (C := RX5) (T := TX5) (N := 16) rfl rfl (Nat.lt_of_succ_le (Nat.le_of_ble_eq_true rfl)) rfl rfl (Nat.le_of_ble_eq_true rfl) ⟨Nat.le_of_ble_eq_true rfl, Nat.le_of_ble_eq_true rfl⟩ rfl (fun q_18 => ?_)
            refine w_ifeq (q := 82) (tgt := 105) hc dX5_parse_79 rfl rfl ?_ ?_
            · refine w_iconst (q := 106) hc dX5_parse_105 ci_0 rfl ?_
              refine w_istore_n (q := 107) (i := 2) (lv' := [(2, .int 0), (0, .ref 1), (3, .int v3_10)]) hc dX5_parse_106 rfl (hN 2 rfl) rfl rfl ?_
              refine w_iincB (q := 110) (i := 3) (j := 2) (lv' := fun v3_19 => [(3, .int v3_19), (2, .int 0), (0, .ref 1)]) hc dX5_parse_107 rfl ci_1 (hN 3 rfl) (fun _ => rfl) rfl (fun v3_19 => ?_)
              refine w_goto (tgt := 50) hc dX5_parse_110 rfl ?_
              refine w_sub [2, 1, 0] rfl ?_
              exact ih 0 v3_19 q_18.2.1 q_18.2.2
            · refine w_goto (tgt := 92) hc dX5_parse_82 rfl ?_
              refine w_aload_n (q := 93) (i := 0) (j := 0) hc dX5_parse_92 rfl rfl rfl ?_
              refine w_bipush (q := 95) hc dX5_parse_93 cb_59 rfl ?_
              refine w_callV_Wz (q := 98) (st := []) (args := [.int 59]) (p := 1) hc (m_X5_readSign hK hR) dX5_parse_95 ml_X5_80 cf_X5_readSign iv_X5_readSign (k_1 hK) (C := RX5) (T := TX5) (N := 16) rfl rfl (Nat.lt_of_succ_le (Nat.le_of_ble_eq_true rfl)) rfl rfl (Nat.le_of_ble_eq_true rfl) ⟨Nat.le_of_ble_eq_true rfl, Nat.le_of_ble_eq_true rfl⟩ rfl (fun q_20 => ?_)
              refine w_ifeq (q := 101) (tgt := 105) hc dX5_parse_98 rfl rfl ?_ ?_
              · refine w_iconst (q := 106) hc dX5_parse_105 ci_0 rfl ?_
                refine w_istore_n (q := 107) (i := 2) (lv' := [(2, .int 0), (0, .ref 1), (3, .int v3_10)]) hc dX5_parse_106 rfl (hN 2 rfl) rfl rfl ?_
                refine w_iincB (q := 110) (i := 3) (j := 2) (lv' := fun v3_21 => [(3, .int v3_21), (2, .int 0), (0, .ref 1)]) hc dX5_parse_107 rfl ci_1 (hN 3 rfl) (fun _ => rfl) rfl (fun v3_21 => ?_)
                refine w_goto (tgt := 50) hc dX5_parse_110 rfl ?_
                refine w_sub [2, 1, 0] rfl ?_
                exact ih 0 v3_21 q_20.2.1 q_20.2.2
              · refine w_iconst (q := 102) hc dX5_parse_101 ci_1 rfl ?_
                refine w_goto (tgt := 106) hc dX5_parse_102 rfl ?_
                refine w_istore_n (q := 107) (i := 2) (lv' := [(2, .int 1), (0, .ref 1), (3, .int v3_10)]) hc dX5_parse_106 rfl (hN 2 rfl) rfl rfl ?_
                refine w_iincB (q := 110) (i := 3) (j := 2) (lv' := fun v3_22 => [(3, .int v3_22), (2, .int 1), (0, .ref 1)]) hc dX5_parse_107 rfl ci_1 (hN 3 rfl) (fun _ => rfl) rfl (fun v3_22 => ?_)
                refine w_goto (tgt := 50) hc dX5_parse_110 rfl ?_
                refine w_sub [2, 1, 0] rfl ?_
                exact ih 1 v3_22 q_20.2.1 q_20.2.2
          · refine w_aload_n (q := 86) (i := 0) (j := 0) hc dX5_parse_85 rfl rfl rfl ?_
            refine w_callV_Wz (q := 89) (st := []) (args := []) (p := 1) hc (m_X5_readMove hK hR) dX5_parse_86 ml_X5_77 cf_X5_readMove iv_X5_readMove (k_1 hK) (C := RX5) (T := TX5) (N := 16) rfl rfl (Nat.lt_of_succ_le (Nat.le_of_ble_eq_true rfl)) rfl rfl (Nat.le_of_ble_eq_true rfl) ⟨Nat.le_of_ble_eq_true rfl, Nat.le_of_ble_eq_true rfl⟩ rfl (fun q_13 => ?_)
            refine w_ifeq (q := 92) (tgt := 105) hc dX5_parse_89 rfl rfl ?_ ?_
            · refine w_iconst (q := 106) hc dX5_parse_105 ci_0 rfl ?_
              refine w_istore_n (q := 107) (i := 2) (lv' := [(2, .int 0), (0, .ref 1), (3, .int v3_10)]) hc dX5_parse_106 rfl (hN 2 rfl) rfl rfl ?_
              refine w_iincB (q := 110) (i := 3) (j := 2) (lv' := fun v3_14 => [(3, .int v3_14), (2, .int 0), (0, .ref 1)]) hc dX5_parse_107 rfl ci_1 (hN 3 rfl) (fun _ => rfl) rfl (fun v3_14 => ?_)
              refine w_goto (tgt := 50) hc dX5_parse_110 rfl ?_
              refine w_sub [2, 1, 0] rfl ?_
              exact ih 0 v3_14 q_13.2.1 q_13.2.2
            · refine w_aload_n (q := 93) (i := 0) (j := 0) hc dX5_parse_92 rfl rfl rfl ?_
              refine w_bipush (q := 95) hc dX5_parse_93 cb_59 rfl ?_
              refine w_callV_Wz (q := 98) (st := []) (args := [.int 59]) (p := 1) hc (m_X5_readSign hK hR) dX5_parse_95 ml_X5_80 cf_X5_readSign iv_X5_readSign (k_1 hK) (C := RX5) (T := TX5) (N := 16) rfl rfl (Nat.lt_of_succ_le (Nat.le_of_ble_eq_true rfl)) rfl rfl (Nat.le_of_ble_eq_true rfl) ⟨Nat.le_of_ble_eq_true rfl, Nat.le_of_ble_eq_true rfl⟩ rfl (fun q_15 => ?_)
              refine w_ifeq (q := 101) (tgt := 105) hc dX5_parse_98 rfl rfl ?_ ?_
              · refine w_iconst (q := 106) hc dX5_parse_105 ci_0 rfl ?_
                refine w_istore_n (q := 107) (i := 2) (lv' := [(2, .int 0), (0, .ref 1), (3, .int v3_10)]) hc dX5_parse_106 rfl (hN 2 rfl) rfl rfl ?_
                refine w_iincB (q := 110) (i := 3) (j := 2) (lv' := fun v3_16 => [(3, .int v3_16), (2, .int 0), (0, .ref 1)]) hc dX5_parse_107 rfl ci_1 (hN 3 rfl) (fun _ => rfl) rfl (fun v3_16 => ?_)
                refine w_goto (tgt := 50) hc dX5_parse_110 rfl ?_
                refine w_sub [2, 1, 0] rfl ?_
                exact ih 0 v3_16 q_15.2.1 q_15.2.2
              · refine w_iconst (q := 102) hc dX5_parse_101 ci_1 rfl ?_
                refine w_goto (tgt := 106) hc dX5_parse_102 rfl ?_
                refine w_istore_n (q := 107) (i := 2) (lv' := [(2, .int 1), (0, .ref 1), (3, .int v3_10)]) hc dX5_parse_106 rfl (hN 2 rfl) rfl rfl ?_
                refine w_iincB (q := 110) (i := 3) (j := 2) (lv' := fun v3_17 => [(3, .int v3_17), (2, .int 1), (0, .ref 1)]) hc dX5_parse_107 rfl ci_1 (hN 3 rfl) (fun _ => rfl) rfl (fun v3_17 => ?_)
                refine w_goto (tgt := 50) hc dX5_parse_110 rfl ?_
                refine w_sub [2, 1, 0] rfl ?_
                exact ih 1 v3_17 q_15.2.1 q_15.2.2
set_option maxRecDepth 100000 in
set_option maxHeartbeats 4000000 in
theorem m_X5_parse {l : Launch} {K : KT} {R : MR} {rm : Nat} {a1 : Int32} {I : MI} {L : ML} (hK0 : K = lK rm) (hR0 : R = lR rm) : MFg l yX5_parse cX5_parse 4 (some .boolean) 9 192 [.ref 1, .int a1] K R I L anZW meW (f_X5_parse a1 I L) := by
  refine mf_of (plainFor_of_name (by decide)) (Nat.le_of_ble_eq_true rfl) ?_
  intro G hc _ hK1 hR1 hn hq
  have hK := hK1.trans hK0
  have hR := hR1.trans hR0
  have hN : ∀ i, Nat.blt i 4 = true → i < gnL G := fun i h => hn ▸ Nat.blt_eq.mp h
  unfold f_X5_parse
  show WW G 0 [(0, .ref 1), (1, .int a1)] [] I L _
  refine w_aload_n (q := 1) (i := 0) (j := 0) hc dX5_parse_0 rfl rfl rfl ?_
  refine w_iload_n (q := 2) (i := 1) (j := 1) hc dX5_parse_1 rfl rfl rfl ?_
  refine w_aload_n (q := 3) (i := 0) (j := 0) hc dX5_parse_2 rfl rfl rfl ?_
  refine gf_X5_15 (q := 6) hc dX5_parse_3 (k_1 hK) rfl ?_
  refine w_min (q := 9) (st := [.ref 1]) hc dX5_parse_6 ml_X5_64 (Nat.le_of_ble_eq_true rfl) (Nat.le_of_ble_eq_true rfl) (Nat.le_of_ble_eq_true rfl) rfl ?_
  refine pf_X5_19 (q := 12) hc dX5_parse_9 (k_1 hK) rfl (fun I_1 => ?_)
  refine w_aload_n (q := 13) (i := 0) (j := 0) hc dX5_parse_12 rfl rfl rfl ?_
  refine w_iconst (q := 14) hc dX5_parse_13 ci_0 rfl ?_
  refine pf_X5_22 (q := 17) hc dX5_parse_14 (k_1 hK) rfl (fun I_2 => ?_)
  refine w_aload_n (q := 18) (i := 0) (j := 0) hc dX5_parse_17 rfl rfl rfl ?_
  refine w_iconst (q := 19) hc dX5_parse_18 ci_0 rfl ?_
  refine pf_X5_34 (q := 22) hc dX5_parse_19 (k_1 hK) rfl (fun I_3 => ?_)
  refine w_aload_n (q := 23) (i := 0) (j := 0) hc dX5_parse_22 rfl rfl rfl ?_
  refine w_iconst (q := 24) hc dX5_parse_23 ci_0 rfl ?_
  refine pf_X5_37 (q := 27) hc dX5_parse_24 (k_1 hK) rfl (fun I_4 => ?_)
  refine w_aload_n (q := 28) (i := 0) (j := 0) hc dX5_parse_27 rfl rfl rfl ?_
  refine w_iconst (q := 29) hc dX5_parse_28 ci_0 rfl ?_
  refine pf_X5_58 (q := 32) hc dX5_parse_29 (k_1 hK) rfl (fun I_5 => ?_)
  refine w_aload_n (q := 33) (i := 0) (j := 0) hc dX5_parse_32 rfl rfl rfl ?_
  refine w_iconst (q := 34) hc dX5_parse_33 ci_m1 rfl ?_
  refine pf_X5_61 (q := 37) hc dX5_parse_34 (k_1 hK) rfl (fun I_6 => ?_)
  refine w_aload_n (q := 38) (i := 0) (j := 0) hc dX5_parse_37 rfl rfl rfl ?_
  refine w_iconst (q := 39) hc dX5_parse_38 ci_0 rfl ?_
  refine pf_X5_15 (q := 42) hc dX5_parse_39 (k_1 hK) rfl (fun I_7 => ?_)
  refine w_aload_n (q := 43) (i := 0) (j := 0) hc dX5_parse_42 rfl rfl rfl ?_
  refine w_callV_Wv (q := 46) (st := []) (args := []) (p := 1) hc (m_X5_scan hK hR) dX5_parse_43 ml_X5_70 cf_X5_scan iv_X5_scan (k_1 hK) (C := RX5) (T := TX5) (N := 16) rfl rfl (Nat.lt_of_succ_le (Nat.le_of_ble_eq_true rfl)) rfl rfl (Nat.le_of_ble_eq_true rfl) ⟨Nat.le_of_ble_eq_true rfl, Nat.le_of_ble_eq_true rfl⟩ rfl (fun q_8 => ?_)
  refine w_iconst (q := 47) hc dX5_parse_46 ci_1 rfl ?_
  refine w_istore_n (q := 48) (i := 2) (lv' := [(2, .int 1), (0, .ref 1), (1, .int a1)]) hc dX5_parse_47 rfl (hN 2 rfl) rfl rfl ?_
  refine w_iconst (q := 49) hc dX5_parse_48 ci_0 rfl ?_
  refine w_istore_n (q := 50) (i := 3) (lv' := [(3, .int 0), (2, .int 1), (0, .ref 1), (1, .int a1)]) hc dX5_parse_49 rfl (hN 3 rfl) rfl rfl ?_
  refine w_sub [2, 1, 0] rfl ?_
  exact wl_X5_parse_50 hc hq hK hR hn FU 1 0 q_8.1 q_8.2
