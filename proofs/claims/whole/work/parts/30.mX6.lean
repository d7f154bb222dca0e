set_option maxRecDepth 100000 in
set_option maxHeartbeats 4000000 in
theorem m_J6_bitCount_0f7a4 {l : Launch} {K : KT} {R : MR} {rm : Nat} {a0 : Int32} {I : MI} {L : ML} (hK0 : K = lK rm) (hR0 : R = lR rm) : MFg l yJ6_bitCount_0f7a4 cJ6_bitCount_0f7a4 1 (some .int) 0 0 [.int a0] K R I L anI (meR I L) (f_J6_bitCount_0f7a4 a0) := by
  refine mf_of (plainFor_of_name (by decide)) (Nat.le_of_ble_eq_true rfl) ?_
  intro G hc _ hK1 hR1 hn hq
  have hK := hK1.trans hK0
  have hR := hR1.trans hR0
  have hN : ∀ i, Nat.blt i 1 = true → i < gnL G := fun i h => hn ▸ Nat.blt_eq.mp h
  unfold f_J6_bitCount_0f7a4
  show WW G 0 [(0, .int a0)] [] I L _
  refine w_iload_n (q := 1) (i := 0) (j := 0) hc dJ6_bitCount_0f7a4_0 rfl rfl rfl ?_
  refine w_iload_n (q := 2) (i := 0) (j := 0) hc dJ6_bitCount_0f7a4_1 rfl rfl rfl ?_
  refine w_iconst (q := 3) hc dJ6_bitCount_0f7a4_2 ci_1 rfl ?_
  refine w_iushr (q := 4) hc dJ6_bitCount_0f7a4_3  rfl ?_
  refine w_ldcw (q := 7) hc dJ6_bitCount_0f7a4_4 ki_J6_265 rfl ?_
  refine w_iand (q := 8) hc dJ6_bitCount_0f7a4_7  rfl ?_
  refine w_isub (q := 9) hc dJ6_bitCount_0f7a4_8  rfl ?_
  refine w_istore_nB (q := 10) (i := 0) (lv' := fun v0_1 => [(0, .int v0_1)]) hc dJ6_bitCount_0f7a4_9 rfl (hN 0 rfl) (fun _ => rfl) rfl (fun v0_1 => ?_)
  refine w_iload_n (q := 11) (i := 0) (j := 0) hc dJ6_bitCount_0f7a4_10 rfl rfl rfl ?_
  refine w_ldcw (q := 14) hc dJ6_bitCount_0f7a4_11 ki_J6_266 rfl ?_
  refine w_iand (q := 15) hc dJ6_bitCount_0f7a4_14  rfl ?_
  refine w_iload_n (q := 16) (i := 0) (j := 0) hc dJ6_bitCount_0f7a4_15 rfl rfl rfl ?_
  refine w_iconst (q := 17) hc dJ6_bitCount_0f7a4_16 ci_2 rfl ?_
  refine w_iushr (q := 18) hc dJ6_bitCount_0f7a4_17  rfl ?_
  refine w_ldcw (q := 21) hc dJ6_bitCount_0f7a4_18 ki_J6_266 rfl ?_
  refine w_iand (q := 22) hc dJ6_bitCount_0f7a4_21  rfl ?_
  refine w_iadd (q := 23) hc dJ6_bitCount_0f7a4_22  rfl ?_
  refine w_istore_nB (q := 24) (i := 0) (lv' := fun v0_2 => [(0, .int v0_2)]) hc dJ6_bitCount_0f7a4_23 rfl (hN 0 rfl) (fun _ => rfl) rfl (fun v0_2 => ?_)
  refine w_iload_n (q := 25) (i := 0) (j := 0) hc dJ6_bitCount_0f7a4_24 rfl rfl rfl ?_
  refine w_iload_n (q := 26) (i := 0) (j := 0) hc dJ6_bitCount_0f7a4_25 rfl rfl rfl ?_
  refine w_iconst (q := 27) hc dJ6_bitCount_0f7a4_26 ci_4 rfl ?_
  refine w_iushr (q := 28) hc dJ6_bitCount_0f7a4_27  rfl ?_
  refine w_iadd (q := 29) hc dJ6_bitCount_0f7a4_28  rfl ?_
  refine w_ldcw (q := 32) hc dJ6_bitCount_0f7a4_29 ki_J6_267 rfl ?_
  refine w_iand (q := 33) hc dJ6_bitCount_0f7a4_32  rfl ?_
  refine w_istore_nB (q := 34) (i := 0) (lv' := fun v0_3 => [(0, .int v0_3)]) hc dJ6_bitCount_0f7a4_33 rfl (hN 0 rfl) (fun _ => rfl) rfl (fun v0_3 => ?_)
  refine w_iload_n (q := 35) (i := 0) (j := 0) hc dJ6_bitCount_0f7a4_34 rfl rfl rfl ?_
  refine w_iload_n (q := 36) (i := 0) (j := 0) hc dJ6_bitCount_0f7a4_35 rfl rfl rfl ?_
  refine w_bipush (q := 38) hc dJ6_bitCount_0f7a4_36 cb_8 rfl ?_
  refine w_iushr (q := 39) hc dJ6_bitCount_0f7a4_38  rfl ?_
  refine w_iadd (q := 40) hc dJ6_bitCount_0f7a4_39  rfl ?_
  refine w_istore_nB (q := 41) (i := 0) (lv' := fun v0_4 => [(0, .int v0_4)]) hc dJ6_bitCount_0f7a4_40 rfl (hN 0 rfl) (fun _ => rfl) rfl (fun v0_4 => ?_)
  refine w_iload_n (q := 42) (i := 0) (j := 0) hc dJ6_bitCount_0f7a4_41 rfl rfl rfl ?_
  refine w_iload_n (q := 43) (i := 0) (j := 0) hc dJ6_bitCount_0f7a4_42 rfl rfl rfl ?_
  refine w_bipush (q := 45) hc dJ6_bitCount_0f7a4_43 cb_16 rfl ?_
  refine w_iushr (q := 46) hc dJ6_bitCount_0f7a4_45  rfl ?_
  refine w_iadd (q := 47) hc dJ6_bitCount_0f7a4_46  rfl ?_
  refine w_istore_nB (q := 48) (i := 0) (lv' := fun v0_5 => [(0, .int v0_5)]) hc dJ6_bitCount_0f7a4_47 rfl (hN 0 rfl) (fun _ => rfl) rfl (fun v0_5 => ?_)
  refine w_iload_n (q := 49) (i := 0) (j := 0) hc dJ6_bitCount_0f7a4_48 rfl rfl rfl ?_
  refine w_bipush (q := 51) hc dJ6_bitCount_0f7a4_49 cb_63 rfl ?_
  refine w_iand (q := 52) hc dJ6_bitCount_0f7a4_51  rfl ?_
  exact w_ireturn (v := (v0_5 &&& 63)) hc hq dJ6_bitCount_0f7a4_52 rfl rfl rfl
set_option maxRecDepth 100000 in
set_option maxHeartbeats 4000000 in
theorem m_J9_floorMod_7cf53 {l : Launch} {K : KT} {R : MR} {rm : Nat} {a0 : Int32} {a1 : Int32} {I : MI} {L : ML} (hK0 : K = lK rm) (hR0 : R = lR rm) : MFg l yJ9_floorMod_7cf53 cJ9_floorMod_7cf53 3 (some .int) 0 0 [.int a0, .int a1] K R I L anI (meR I L) (f_J9_floorMod_7cf53 a0 a1) := by
  refine mf_of (by decide +kernel) (Nat.le_of_ble_eq_true rfl) ?_
  intro G hc _ hK1 hR1 hn hq
  have hK := hK1.trans hK0
  have hR := hR1.trans hR0
  have hN : ∀ i, Nat.blt i 3 = true → i < gnL G := fun i h => hn ▸ Nat.blt_eq.mp h
  unfold f_J9_floorMod_7cf53
  show WW G 0 [(0, .int a0), (1, .int a1)] [] I L _
  refine w_iload_n (q := 1) (i := 0) (j := 0) hc dJ9_floorMod_7cf53_0 rfl rfl rfl ?_
  refine w_iload_n (q := 2) (i := 1) (j := 1) hc dJ9_floorMod_7cf53_1 rfl rfl rfl ?_
  refine w_irem (q := 3) hc dJ9_floorMod_7cf53_2  rfl ?_
  refine w_istore_nB (q := 4) (i := 2) (lv' := fun v2_1 => [(2, .int v2_1), (0, .int a0), (1, .int a1)]) hc dJ9_floorMod_7cf53_3 rfl (hN 2 rfl) (fun _ => rfl) rfl (fun v2_1 => ?_)
  refine w_iload_n (q := 5) (i := 0) (j := 1) hc dJ9_floorMod_7cf53_4 rfl rfl rfl ?_
  refine w_iload_n (q := 6) (i := 1) (j := 2) hc dJ9_floorMod_7cf53_5 rfl rfl rfl ?_
  refine w_ixor (q := 7) hc dJ9_floorMod_7cf53_6  rfl ?_
  refine w_ifge (q := 10) (tgt := 18) hc dJ9_floorMod_7cf53_7 rfl rfl ?_ ?_
  · refine w_iload_n (q := 19) (i := 2) (j := 0) hc dJ9_floorMod_7cf53_18 rfl rfl rfl ?_
    exact w_ireturn (v := v2_1) hc hq dJ9_floorMod_7cf53_19 rfl rfl rfl
  · refine w_iload_n (q := 11) (i := 2) (j := 0) hc dJ9_floorMod_7cf53_10 rfl rfl rfl ?_
    refine w_ifeq (q := 14) (tgt := 18) hc dJ9_floorMod_7cf53_11 rfl rfl ?_ ?_
    · refine w_iload_n (q := 19) (i := 2) (j := 0) hc dJ9_floorMod_7cf53_18 rfl rfl rfl ?_
      exact w_ireturn (v := v2_1) hc hq dJ9_floorMod_7cf53_19 rfl rfl rfl
    · refine w_iload_n (q := 15) (i := 2) (j := 0) hc dJ9_floorMod_7cf53_14 rfl rfl rfl ?_
      refine w_iload_n (q := 16) (i := 1) (j := 2) hc dJ9_floorMod_7cf53_15 rfl rfl rfl ?_
      refine w_iadd (q := 17) hc dJ9_floorMod_7cf53_16  rfl ?_
      exact w_ireturn (v := (v2_1 + a1)) hc hq dJ9_floorMod_7cf53_17 rfl rfl rfl
set_option maxRecDepth 100000 in
set_option maxHeartbeats 4000000 in
theorem wl_X6_identity_4 {G : GT Int64} {rm : Nat} (v0_1 : Int32) {I : MI} {L : ML} (hc : Cx G cX6_identity yX6_identity.cls (some .long) 0 0) (hq : RetQ G anL (meR I L)) (hK : gK G = lK rm) (hR : gR G = lR rm) (hn : gnL G = 4) : ∀ (n : Nat) (v1_2 : Int64) (v3_3 : Int32), WW G 4 [(0, .int v0_1), (1, .long v1_2), (3, .int v3_3)] [] I L (f_X6_identity_4 v0_1 n v1_2 v3_3) := by
  have hN : ∀ i, Nat.blt i 4 = true → i < gnL G := fun i h => hn ▸ Nat.blt_eq.mp h
  intro n
  induction n with
  | zero => intros; exact w_none _ _ _
  | succ n ih =>
    intros v1_2 v3_3
    rw [f_X6_identity_4]
    refine w_iload_n (q := 5) (i := 3) (j := 2) hc dX6_identity_4 rfl rfl rfl ?_
    refine w_iload_n (q := 6) (i := 0) (j := 0) hc dX6_identity_5 rfl rfl rfl ?_
    refine w_icmpge (q := 9) (tgt := 27) hc dX6_identity_6 rfl rfl ?_ ?_
    · refine w_lload_n (q := 28) (i := 1) (j := 1) hc dX6_identity_27 rfl rfl rfl ?_
      exact w_lreturn hc hq dX6_identity_28 rfl rfl
    · refine w_lload_n (q := 10) (i := 1) (j := 1) hc dX6_identity_9 rfl rfl rfl ?_
      refine w_iload_n (q := 11) (i := 3) (j := 2) hc dX6_identity_10 rfl rfl rfl ?_
      refine w_i2l (q := 12) hc dX6_identity_11  rfl ?_
      refine w_bipush (q := 14) hc dX6_identity_12 cb_36 rfl ?_
      refine w_iconst (q := 15) hc dX6_identity_14 ci_4 rfl ?_
      refine w_iload_n (q := 16) (i := 3) (j := 2) hc dX6_identity_15 rfl rfl rfl ?_
      refine w_imul (q := 17) hc dX6_identity_16  rfl ?_
      refine w_isub (q := 18) hc dX6_identity_17  rfl ?_
      refine w_lshl (q := 19) hc dX6_identity_18  rfl ?_
      refine w_lor (q := 20) hc dX6_identity_19  rfl ?_
      refine w_lstore_nB (q := 21) (i := 1) (lv' := fun v1_4 => [(1, .long v1_4), (0, .int v0_1), (3, .int v3_3)]) hc dX6_identity_20 rfl (hN 2 rfl) (fun _ => rfl) rfl (fun v1_4 => ?_)
      refine w_iincB (q := 24) (i := 3) (j := 2) (lv' := fun v3_5 => [(3, .int v3_5), (1, .long v1_4), (0, .int v0_1)]) hc dX6_identity_21 rfl ci_1 (hN 3 rfl) (fun _ => rfl) rfl (fun v3_5 => ?_)
      refine w_goto (tgt := 4) hc dX6_identity_24 rfl ?_
      refine w_sub [2, 1, 0] rfl ?_
      exact ih v1_4 v3_5
set_option maxRecDepth 100000 in
set_option maxHeartbeats 4000000 in
theorem m_X6_identity {l : Launch} {K : KT} {R : MR} {rm : Nat} {a0 : Int32} {I : MI} {L : ML} (hK0 : K = lK rm) (hR0 : R = lR rm) : MFg l yX6_identity cX6_identity 4 (some .long) 0 0 [.int a0] K R I L anL (meR I L) (f_X6_identity a0) := by
  refine mf_of (plainFor_of_name (by decide)) (Nat.le_of_ble_eq_true rfl) ?_
  intro G hc _ hK1 hR1 hn hq
  have hK := hK1.trans hK0
  have hR := hR1.trans hR0
  have hN : ∀ i, Nat.blt i 4 = true → i < gnL G := fun i h => hn ▸ Nat.blt_eq.mp h
  unfold f_X6_identity
  show WW G 0 [(0, .int a0)] [] I L _
  refine w_lconst (q := 1) hc dX6_identity_0 cl_0 rfl ?_
  refine w_lstore_n (q := 2) (i := 1) (lv' := [(1, .long 0), (0, .int a0)]) hc dX6_identity_1 rfl (hN 2 rfl) rfl rfl ?_
  refine w_iconst (q := 3) hc dX6_identity_2 ci_0 rfl ?_
  refine w_istore_n (q := 4) (i := 3) (lv' := [(3, .int 0), (1, .long 0), (0, .int a0)]) hc dX6_identity_3 rfl (hN 3 rfl) rfl rfl ?_
  refine w_sub [2, 1, 0] rfl ?_
  exact wl_X6_identity_4 a0 hc hq hK hR hn FU 0 0
set_option maxRecDepth 100000 in
set_option maxHeartbeats 4000000 in
theorem m_X6_image {l : Launch} {K : KT} {R : MR} {rm : Nat} {a0 : Int64} {a2 : Int32} {I : MI} {L : ML} (hK0 : K = lK rm) (hR0 : R = lR rm) : MFg l yX6_image cX6_image 3 (some .int) 0 0 [.long a0, .int a2] K R I L anI (meR I L) (f_X6_image a0 a2) := by
  refine mf_of (plainFor_of_name (by decide)) (Nat.le_of_ble_eq_true rfl) ?_
  intro G hc _ hK1 hR1 hn hq
  have hK := hK1.trans hK0
  have hR := hR1.trans hR0
  have hN : ∀ i, Nat.blt i 3 = true → i < gnL G := fun i h => hn ▸ Nat.blt_eq.mp h
  unfold f_X6_image
  show WW G 0 [(0, .long a0), (2, .int a2)] [] I L _
  refine w_lload_n (q := 1) (i := 0) (j := 0) hc dX6_image_0 rfl rfl rfl ?_
  refine w_bipush (q := 3) hc dX6_image_1 cb_36 rfl ?_
  refine w_iconst (q := 4) hc dX6_image_3 ci_4 rfl ?_
  refine w_iload_n (q := 5) (i := 2) (j := 1) hc dX6_image_4 rfl rfl rfl ?_
  refine w_imul (q := 6) hc dX6_image_5  rfl ?_
  refine w_isub (q := 7) hc dX6_image_6  rfl ?_
  refine w_lushr (q := 8) hc dX6_image_7  rfl ?_
  refine w_l2i (q := 9) hc dX6_image_8  rfl ?_
  refine w_bipush (q := 11) hc dX6_image_9 cb_15 rfl ?_
  refine w_iand (q := 12) hc dX6_image_11  rfl ?_
  exact w_ireturn (v := ((Int64.toInt32 (lushr a0 (36 - (4 * a2)))) &&& 15)) hc hq dX6_image_12 rfl rfl rfl
set_option maxRecDepth 100000 in
set_option maxHeartbeats 4000000 in
theorem wl_X6_compose_16 {G : GT Int64} {rm : Nat} (v0_2 : Int64) (v2_3 : Int64) (v7_5 : Int32) {I : MI} {L : ML} (hc : Cx G cX6_compose yX6_compose.cls (some .long) 0 0) (hq : RetQ G anL (meR I L)) (hK : gK G = lK rm) (hR : gR G = lR rm) (hn : gnL G = 10) : ∀ (n : Nat) (v5_4 : Int64) (v8_6 : Int32), WW G 16 [(0, .long v0_2), (2, .long v2_3), (5, .long v5_4), (7, .int v7_5), (8, .int v8_6)] [] I L (f_X6_compose_16 v0_2 v2_3 v7_5 n v5_4 v8_6) := by
  have hN : ∀ i, Nat.blt i 10 = true → i < gnL G := fun i h => hn ▸ Nat.blt_eq.mp h
  intro n
  induction n with
  | zero => intros; exact w_none _ _ _
  | succ n ih =>
    intros v5_4 v8_6
    rw [f_X6_compose_16]
    refine w_iload (q := 18) (i := 8) (j := 4) hc dX6_compose_16 rfl rfl ?_
    refine w_iload (q := 20) (i := 7) (j := 3) hc dX6_compose_18 rfl rfl ?_
    refine w_icmple (q := 23) (tgt := 60) hc dX6_compose_20 rfl rfl ?_ ?_
    · refine w_lload (q := 62) (i := 5) (j := 2) hc dX6_compose_60 rfl rfl ?_
      exact w_lreturn hc hq dX6_compose_62 rfl rfl
    · refine w_lload_n (q := 24) (i := 0) (j := 0) hc dX6_compose_23 rfl rfl rfl ?_
      refine w_iload (q := 26) (i := 8) (j := 4) hc dX6_compose_24 rfl rfl ?_
      refine w_lushr (q := 27) hc dX6_compose_26  rfl ?_
      refine w_l2i (q := 28) hc dX6_compose_27  rfl ?_
      refine w_bipush (q := 30) hc dX6_compose_28 cb_15 rfl ?_
      refine w_iand (q := 31) hc dX6_compose_30  rfl ?_
      refine w_istoreB (q := 33) (i := 9) (lv' := fun v9_7 => [(9, .int v9_7), (0, .long v0_2), (2, .long v2_3), (5, .long v5_4), (7, .int v7_5), (8, .int v8_6)]) hc dX6_compose_31 (hN 9 rfl) (fun _ => rfl) rfl (fun v9_7 => ?_)
      refine w_lload (q := 35) (i := 5) (j := 3) hc dX6_compose_33 rfl rfl ?_
      refine w_lload_n (q := 36) (i := 2) (j := 2) hc dX6_compose_35 rfl rfl rfl ?_
      refine w_bipush (q := 38) hc dX6_compose_36 cb_36 rfl ?_
      refine w_iconst (q := 39) hc dX6_compose_38 ci_4 rfl ?_
      refine w_iload (q := 41) (i := 9) (j := 0) hc dX6_compose_39 rfl rfl ?_
      refine w_imul (q := 42) hc dX6_compose_41  rfl ?_
      refine w_isub (q := 43) hc dX6_compose_42  rfl ?_
      refine w_lushr (q := 44) hc dX6_compose_43  rfl ?_
      refine w_ldc2 (q := 47) hc dX6_compose_44 kl_X6_11 rfl ?_
      refine w_land (q := 48) hc dX6_compose_47  rfl ?_
      refine w_iload (q := 50) (i := 8) (j := 5) hc dX6_compose_48 rfl rfl ?_
      refine w_lshl (q := 51) hc dX6_compose_50  rfl ?_
      refine w_lor (q := 52) hc dX6_compose_51  rfl ?_
      refine w_lstoreB (q := 54) (i := 5) (lv' := fun v5_8 => [(5, .long v5_8), (9, .int v9_7), (0, .long v0_2), (2, .long v2_3), (7, .int v7_5), (8, .int v8_6)]) hc dX6_compose_52 (hN 6 rfl) (fun _ => rfl) rfl (fun v5_8 => ?_)
      refine w_iincB (q := 57) (i := 8) (j := 5) (lv' := fun v8_9 => [(8, .int v8_9), (5, .long v5_8), (9, .int v9_7), (0, .long v0_2), (2, .long v2_3), (7, .int v7_5)]) hc dX6_compose_54 rfl ci_m4 (hN 8 rfl) (fun _ => rfl) rfl (fun v8_9 => ?_)
      refine w_goto (tgt := 16) hc dX6_compose_57 rfl ?_
      refine w_sub [3, 4, 1, 5, 0] rfl ?_
      exact ih v5_8 v8_9
set_option maxRecDepth 100000 in
set_option maxHeartbeats 4000000 in
theorem m_X6_compose {l : Launch} {K : KT} {R : MR} {rm : Nat} {a0 : Int64} {a2 : Int64} {a4 : Int32} {I : MI} {L : ML} (hK0 : K = lK rm) (hR0 : R = lR rm) : MFg l yX6_compose cX6_compose 10 (some .long) 0 0 [.long a0, .long a2, .int a4] K R I L anL (meR I L) (f_X6_compose a0 a2 a4) := by
  refine mf_of (plainFor_of_name (by decide)) (Nat.le_of_ble_eq_true rfl) ?_
  intro G hc _ hK1 hR1 hn hq
  have hK := hK1.trans hK0
  have hR := hR1.trans hR0
  have hN : ∀ i, Nat.blt i 10 = true → i < gnL G := fun i h => hn ▸ Nat.blt_eq.mp h
  unfold f_X6_compose
  show WW G 0 [(0, .long a0), (2, .long a2), (4, .int a4)] [] I L _
  refine w_lconst (q := 1) hc dX6_compose_0 cl_0 rfl ?_
  refine w_lstore (q := 3) (i := 5) (lv' := [(5, .long 0), (0, .long a0), (2, .long a2), (4, .int a4)]) hc dX6_compose_1 (hN 6 rfl) rfl rfl ?_
  refine w_bipush (q := 5) hc dX6_compose_3 cb_36 rfl ?_
  refine w_iconst (q := 6) hc dX6_compose_5 ci_4 rfl ?_
  refine w_iload (q := 8) (i := 4) (j := 3) hc dX6_compose_6 rfl rfl ?_
  refine w_imul (q := 9) hc dX6_compose_8  rfl ?_
  refine w_isub (q := 10) hc dX6_compose_9  rfl ?_
  refine w_istoreB (q := 12) (i := 7) (lv' := fun v7_1 => [(7, .int v7_1), (5, .long 0), (0, .long a0), (2, .long a2), (4, .int a4)]) hc dX6_compose_10 (hN 7 rfl) (fun _ => rfl) rfl (fun v7_1 => ?_)
  refine w_bipush (q := 14) hc dX6_compose_12 cb_36 rfl ?_
  refine w_istore (q := 16) (i := 8) (lv' := [(8, .int 36), (7, .int v7_1), (5, .long 0), (0, .long a0), (2, .long a2), (4, .int a4)]) hc dX6_compose_14 (hN 8 rfl) rfl rfl ?_
  refine w_sub [3, 4, 2, 1, 0] rfl ?_
  exact wl_X6_compose_16 a0 a2 v7_1 hc hq hK hR hn FU 0 36
set_option maxRecDepth 100000 in
set_option maxHeartbeats 4000000 in
theorem wl_X6_invert_5 {G : GT Int64} {rm : Nat} (v0_1 : Int64) (v2_2 : Int32) {I : MI} {L : ML} (hc : Cx G cX6_invert yX6_invert.cls (some .long) 0 0) (hq : RetQ G anL (meR I L)) (hK : gK G = lK rm) (hR : gR G = lR rm) (hn : gnL G = 7) : ∀ (n : Nat) (v3_3 : Int64) (v5_4 : Int32), WW G 5 [(0, .long v0_1), (2, .int v2_2), (3, .long v3_3), (5, .int v5_4)] [] I L (f_X6_invert_5 v0_1 v2_2 n v3_3 v5_4) := by
  have hN : ∀ i, Nat.blt i 7 = true → i < gnL G := fun i h => hn ▸ Nat.blt_eq.mp h
  intro n
  induction n with
  | zero => intros; exact w_none _ _ _
  | succ n ih =>
    intros v3_3 v5_4
    rw [f_X6_invert_5]
    refine w_iload (q := 7) (i := 5) (j := 3) hc dX6_invert_5 rfl rfl ?_
    refine w_iload_n (q := 8) (i := 2) (j := 1) hc dX6_invert_7 rfl rfl rfl ?_
    refine w_icmpge (q := 11) (tgt := 46) hc dX6_invert_8 rfl rfl ?_ ?_
    · refine w_lload_n (q := 47) (i := 3) (j := 2) hc dX6_invert_46 rfl rfl rfl ?_
      exact w_lreturn hc hq dX6_invert_47 rfl rfl
    · refine w_lload_n (q := 12) (i := 0) (j := 0) hc dX6_invert_11 rfl rfl rfl ?_
      refine w_bipush (q := 14) hc dX6_invert_12 cb_36 rfl ?_
      refine w_iconst (q := 15) hc dX6_invert_14 ci_4 rfl ?_
      refine w_iload (q := 17) (i := 5) (j := 3) hc dX6_invert_15 rfl rfl ?_
      refine w_imul (q := 18) hc dX6_invert_17  rfl ?_
      refine w_isub (q := 19) hc dX6_invert_18  rfl ?_
      refine w_lushr (q := 20) hc dX6_invert_19  rfl ?_
      refine w_l2i (q := 21) hc dX6_invert_20  rfl ?_
      refine w_bipush (q := 23) hc dX6_invert_21 cb_15 rfl ?_
      refine w_iand (q := 24) hc dX6_invert_23  rfl ?_
      refine w_istoreB (q := 26) (i := 6) (lv' := fun v6_5 => [(6, .int v6_5), (0, .long v0_1), (2, .int v2_2), (3, .long v3_3), (5, .int v5_4)]) hc dX6_invert_24 (hN 6 rfl) (fun _ => rfl) rfl (fun v6_5 => ?_)
      refine w_lload_n (q := 27) (i := 3) (j := 3) hc dX6_invert_26 rfl rfl rfl ?_
      refine w_iload (q := 29) (i := 5) (j := 4) hc dX6_invert_27 rfl rfl ?_
      refine w_i2l (q := 30) hc dX6_invert_29  rfl ?_
      refine w_bipush (q := 32) hc dX6_invert_30 cb_36 rfl ?_
      refine w_iconst (q := 33) hc dX6_invert_32 ci_4 rfl ?_
      refine w_iload (q := 35) (i := 6) (j := 0) hc dX6_invert_33 rfl rfl ?_
      refine w_imul (q := 36) hc dX6_invert_35  rfl ?_
      refine w_isub (q := 37) hc dX6_invert_36  rfl ?_
      refine w_lshl (q := 38) hc dX6_invert_37  rfl ?_
      refine w_lor (q := 39) hc dX6_invert_38  rfl ?_
      refine w_lstore_nB (q := 40) (i := 3) (lv' := fun v3_6 => [(3, .long v3_6), (6, .int v6_5), (0, .long v0_1), (2, .int v2_2), (5, .int v5_4)]) hc dX6_invert_39 rfl (hN 4 rfl) (fun _ => rfl) rfl (fun v3_6 => ?_)
      refine w_iincB (q := 43) (i := 5) (j := 4) (lv' := fun v5_7 => [(5, .int v5_7), (3, .long v3_6), (6, .int v6_5), (0, .long v0_1), (2, .int v2_2)]) hc dX6_invert_40 rfl ci_1 (hN 5 rfl) (fun _ => rfl) rfl (fun v5_7 => ?_)
      refine w_goto (tgt := 5) hc dX6_invert_43 rfl ?_
      refine w_sub [3, 4, 1, 0] rfl ?_
      exact ih v3_6 v5_7
set_option maxRecDepth 100000 in
set_option maxHeartbeats 4000000 in
theorem m_X6_invert {l : Launch} {K : KT} {R : MR} {rm : Nat} {a0 : Int64} {a2 : Int32} {I : MI} {L : ML} (hK0 : K = lK rm) (hR0 : R = lR rm) : MFg l yX6_invert cX6_invert 7 (some .long) 0 0 [.long a0, .int a2] K R I L anL (meR I L) (f_X6_invert a0 a2) := by
  refine mf_of (plainFor_of_name (by decide)) (Nat.le_of_ble_eq_true rfl) ?_
  intro G hc _ hK1 hR1 hn hq
  have hK := hK1.trans hK0
  have hR := hR1.trans hR0
  have hN : ∀ i, Nat.blt i 7 = true → i < gnL G := fun i h => hn ▸ Nat.blt_eq.mp h
  unfold f_X6_invert
  show WW G 0 [(0, .long a0), (2, .int a2)] [] I L _
  refine w_lconst (q := 1) hc dX6_invert_0 cl_0 rfl ?_
  refine w_lstore_n (q := 2) (i := 3) (lv' := [(3, .long 0), (0, .long a0), (2, .int a2)]) hc dX6_invert_1 rfl (hN 4 rfl) rfl rfl ?_
  refine w_iconst (q := 3) hc dX6_invert_2 ci_0 rfl ?_
  refine w_istore (q := 5) (i := 5) (lv' := [(5, .int 0), (3, .long 0), (0, .long a0), (2, .int a2)]) hc dX6_invert_3 (hN 5 rfl) rfl rfl ?_
  refine w_sub [2, 3, 1, 0] rfl ?_
  exact wl_X6_invert_5 a0 a2 hc hq hK hR hn FU 0 0
set_option maxRecDepth 100000 in
set_option maxHeartbeats 4000000 in
theorem m_X6_commutatorOf {l : Launch} {K : KT} {R : MR} {rm : Nat} {a0 : Int64} {a2 : Int64} {a4 : Int32} {I : MI} {L : ML} (hK0 : K = lK rm) (hR0 : R = lR rm) : MFg l yX6_commutatorOf cX6_commutatorOf 7 (some .long) 1 29 [.long a0, .long a2, .int a4] K R I L anL (meR I L) (f_X6_commutatorOf a0 a2 a4) := by
  refine mf_of (plainFor_of_name (by decide)) (Nat.le_of_ble_eq_true rfl) ?_
  intro G hc _ hK1 hR1 hn hq
  have hK := hK1.trans hK0
  have hR := hR1.trans hR0
  have hN : ∀ i, Nat.blt i 7 = true → i < gnL G := fun i h => hn ▸ Nat.blt_eq.mp h
  unfold f_X6_commutatorOf
  show WW G 0 [(0, .long a0), (2, .long a2), (4, .int a4)] [] I L _
  refine w_lload_n (q := 1) (i := 2) (j := 1) hc dX6_commutatorOf_0 rfl rfl rfl ?_
  refine w_lload_n (q := 2) (i := 0) (j := 0) hc dX6_commutatorOf_1 rfl rfl rfl ?_
  refine w_iload (q := 4) (i := 4) (j := 2) hc dX6_commutatorOf_2 rfl rfl ?_
  refine w_callS_Rl (q := 7) (st := []) (args := [.long a2, .long a0, .int a4]) hc (m_X6_compose hK hR) dX6_commutatorOf_4 ml_X6_19 cf_X6_compose st_X6_compose rfl rfl (Nat.le_of_ble_eq_true rfl) ⟨Nat.le_of_ble_eq_true rfl, Nat.le_of_ble_eq_true rfl⟩ rfl (fun q_1 => ?_)
  refine w_iload (q := 9) (i := 4) (j := 2) hc dX6_commutatorOf_7 rfl rfl ?_
  refine w_callS_Rl (q := 12) (st := []) (args := [.long q_1, .int a4]) hc (m_X6_invert hK hR) dX6_commutatorOf_9 ml_X6_23 cf_X6_invert st_X6_invert rfl rfl (Nat.le_of_ble_eq_true rfl) ⟨Nat.le_of_ble_eq_true rfl, Nat.le_of_ble_eq_true rfl⟩ rfl (fun q_2 => ?_)
  refine w_lstore (q := 14) (i := 5) (lv' := [(5, .long q_2), (0, .long a0), (2, .long a2), (4, .int a4)]) hc dX6_commutatorOf_12 (hN 6 rfl) rfl rfl ?_
  refine w_lload (q := 16) (i := 5) (j := 0) hc dX6_commutatorOf_14 rfl rfl ?_
  refine w_lload_n (q := 17) (i := 0) (j := 1) hc dX6_commutatorOf_16 rfl rfl rfl ?_
  refine w_lload_n (q := 18) (i := 2) (j := 2) hc dX6_commutatorOf_17 rfl rfl rfl ?_
  refine w_iload (q := 20) (i := 4) (j := 3) hc dX6_commutatorOf_18 rfl rfl ?_
  refine w_callS_Rl (q := 23) (st := [.long q_2]) (args := [.long a0, .long a2, .int a4]) hc (m_X6_compose hK hR) dX6_commutatorOf_20 ml_X6_19 cf_X6_compose st_X6_compose rfl rfl (Nat.le_of_ble_eq_true rfl) ⟨Nat.le_of_ble_eq_true rfl, Nat.le_of_ble_eq_true rfl⟩ rfl (fun q_3 => ?_)
  refine w_iload (q := 25) (i := 4) (j := 3) hc dX6_commutatorOf_23 rfl rfl ?_
  refine w_callS_Rl (q := 28) (st := []) (args := [.long q_2, .long q_3, .int a4]) hc (m_X6_compose hK hR) dX6_commutatorOf_25 ml_X6_19 cf_X6_compose st_X6_compose rfl rfl (Nat.le_of_ble_eq_true rfl) ⟨Nat.le_of_ble_eq_true rfl, Nat.le_of_ble_eq_true rfl⟩ rfl (fun q_4 => ?_)
  exact w_lreturn hc hq dX6_commutatorOf_28 rfl rfl
set_option maxRecDepth 100000 in
set_option maxHeartbeats 4000000 in
theorem wl_X6_conjugate_6 {G : GT Int64} {rm : Nat} (v0_1 : Int64) (v2_2 : Int64) (v4_3 : Int32) {I : MI} {L : ML} (hc : Cx G cX6_conjugate yX6_conjugate.cls (some .long) 1 22) (hq : RetQ G anL (meR I L)) (hK : gK G = lK rm) (hR : gR G = lR rm) (hn : gnL G = 8) : ∀ (n : Nat) (v5_4 : Int64) (v7_5 : Int32), WW G 6 [(0, .long v0_1), (2, .long v2_2), (4, .int v4_3), (5, .long v5_4), (7, .int v7_5)] [] I L (f_X6_conjugate_6 v0_1 v2_2 v4_3 n v5_4 v7_5) := by
  have hN : ∀ i, Nat.blt i 8 = true → i < gnL G := fun i h => hn ▸ Nat.blt_eq.mp h
  intro n
  induction n with
  | zero => intros; exact w_none _ _ _
  | succ n ih =>
    intros v5_4 v7_5
    rw [f_X6_conjugate_6]
    refine w_iload (q := 8) (i := 7) (j := 4) hc dX6_conjugate_6 rfl rfl ?_
    refine w_iload (q := 10) (i := 4) (j := 2) hc dX6_conjugate_8 rfl rfl ?_
    refine w_icmpge (q := 13) (tgt := 47) hc dX6_conjugate_10 rfl rfl ?_ ?_
    · refine w_lload (q := 49) (i := 5) (j := 3) hc dX6_conjugate_47 rfl rfl ?_
      exact w_lreturn hc hq dX6_conjugate_49 rfl rfl
    · refine w_lload (q := 15) (i := 5) (j := 3) hc dX6_conjugate_13 rfl rfl ?_
      refine w_lload_n (q := 16) (i := 2) (j := 1) hc dX6_conjugate_15 rfl rfl rfl ?_
      refine w_lload_n (q := 17) (i := 0) (j := 0) hc dX6_conjugate_16 rfl rfl rfl ?_
      refine w_iload (q := 19) (i := 7) (j := 4) hc dX6_conjugate_17 rfl rfl ?_
      refine w_callS_Ri (q := 22) (st := [.long v2_2, .long v5_4]) (args := [.long v0_1, .int v7_5]) hc (m_X6_image hK hR) dX6_conjugate_19 ml_X6_15 cf_X6_image st_X6_image rfl rfl (Nat.le_of_ble_eq_true rfl) ⟨Nat.le_of_ble_eq_true rfl, Nat.le_of_ble_eq_true rfl⟩ rfl (fun q_6 => ?_)
      refine w_callS_Ri (q := 25) (st := [.long v5_4]) (args := [.long v2_2, .int q_6]) hc (m_X6_image hK hR) dX6_conjugate_22 ml_X6_15 cf_X6_image st_X6_image rfl rfl (Nat.le_of_ble_eq_true rfl) ⟨Nat.le_of_ble_eq_true rfl, Nat.le_of_ble_eq_true rfl⟩ rfl (fun q_7 => ?_)
      refine w_i2l (q := 26) hc dX6_conjugate_25  rfl ?_
      refine w_bipush (q := 28) hc dX6_conjugate_26 cb_36 rfl ?_
      refine w_iconst (q := 29) hc dX6_conjugate_28 ci_4 rfl ?_
      refine w_lload_n (q := 30) (i := 2) (j := 1) hc dX6_conjugate_29 rfl rfl rfl ?_
      refine w_iload (q := 32) (i := 7) (j := 4) hc dX6_conjugate_30 rfl rfl ?_
      refine w_callS_Ri (q := 35) (st := [.int 4, .int 36, .long (Int32.toInt64 q_7), .long v5_4]) (args := [.long v2_2, .int v7_5]) hc (m_X6_image hK hR) dX6_conjugate_32 ml_X6_15 cf_X6_image st_X6_image rfl rfl (Nat.le_of_ble_eq_true rfl) ⟨Nat.le_of_ble_eq_true rfl, Nat.le_of_ble_eq_true rfl⟩ rfl (fun q_8 => ?_)
      refine w_imul (q := 36) hc dX6_conjugate_35  rfl ?_
      refine w_isub (q := 37) hc dX6_conjugate_36  rfl ?_
      refine w_lshl (q := 38) hc dX6_conjugate_37  rfl ?_
      refine w_lor (q := 39) hc dX6_conjugate_38  rfl ?_
      refine w_lstoreB (q := 41) (i := 5) (lv' := fun v5_9 => [(5, .long v5_9), (0, .long v0_1), (2, .long v2_2), (4, .int v4_3), (7, .int v7_5)]) hc dX6_conjugate_39 (hN 6 rfl) (fun _ => rfl) rfl (fun v5_9 => ?_)
      refine w_iincB (q := 44) (i := 7) (j := 4) (lv' := fun v7_10 => [(7, .int v7_10), (5, .long v5_9), (0, .long v0_1), (2, .long v2_2), (4, .int v4_3)]) hc dX6_conjugate_41 rfl ci_1 (hN 7 rfl) (fun _ => rfl) rfl (fun v7_10 => ?_)
      refine w_goto (tgt := 6) hc dX6_conjugate_44 rfl ?_
      refine w_sub [2, 3, 4, 1, 0] rfl ?_
      exact ih v5_9 v7_10
set_option maxRecDepth 100000 in
set_option maxHeartbeats 4000000 in
theorem m_X6_conjugate {l : Launch} {K : KT} {R : MR} {rm : Nat} {a0 : Int64} {a2 : Int64} {a4 : Int32} {I : MI} {L : ML} (hK0 : K = lK rm) (hR0 : R = lR rm) : MFg l yX6_conjugate cX6_conjugate 8 (some .long) 1 22 [.long a0, .long a2, .int a4] K R I L anL (meR I L) (f_X6_conjugate a0 a2 a4) := by
  refine mf_of (plainFor_of_name (by decide)) (Nat.le_of_ble_eq_true rfl) ?_
  intro G hc _ hK1 hR1 hn hq
  have hK := hK1.trans hK0
  have hR := hR1.trans hR0
  have hN : ∀ i, Nat.blt i 8 = true → i < gnL G := fun i h => hn ▸ Nat.blt_eq.mp h
  unfold f_X6_conjugate
  show WW G 0 [(0, .long a0), (2, .long a2), (4, .int a4)] [] I L _
  refine w_lconst (q := 1) hc dX6_conjugate_0 cl_0 rfl ?_
  refine w_lstore (q := 3) (i := 5) (lv' := [(5, .long 0), (0, .long a0), (2, .long a2), (4, .int a4)]) hc dX6_conjugate_1 (hN 6 rfl) rfl rfl ?_
  refine w_iconst (q := 4) hc dX6_conjugate_3 ci_0 rfl ?_
  refine w_istore (q := 6) (i := 7) (lv' := [(7, .int 0), (5, .long 0), (0, .long a0), (2, .long a2), (4, .int a4)]) hc dX6_conjugate_4 (hN 7 rfl) rfl rfl ?_
  refine w_sub [2, 3, 4, 1, 0] rfl ?_
  exact wl_X6_conjugate_6 a0 a2 a4 hc hq hK hR hn FU 0 0
set_option maxRecDepth 100000 in
set_option maxHeartbeats 4000000 in
theorem wl_X6_shape_37 {G : GT Int64} {rm : Nat} (v0_6 : Int64) (v2_7 : Int32) (v3_8 : Int64) (v6_10 : Int32) {I : MI} {L : ML} (hc : Cx G cX6_shape yX6_shape.cls (some .long) 1 22) (hq : RetQ G anL (meR I L)) (hK : gK G = lK rm) (hR : gR G = lR rm) (hn : gnL G = 10) (k0 : Int32 → Int32 → Option Int64) (hk0 : ∀ (v5_18 : Int32) (v7_19 : Int32), WW G 79 [(0, .long v0_6), (2, .int v2_7), (3, .long v3_8), (5, .int v5_18), (6, .int v6_10), (7, .int v7_19)] [] I L (k0 v5_18 v7_19)) : ∀ (n : Nat) (v5_9 : Int32) (v7_11 : Int32) (v8_12 : Int32) (v9_13 : Int32), WW G 37 [(0, .long v0_6), (2, .int v2_7), (3, .long v3_8), (5, .int v5_9), (6, .int v6_10), (7, .int v7_11), (8, .int v8_12), (9, .int v9_13)] [] I L (f_X6_shape_37 v0_6 v2_7 v3_8 v6_10 k0 n v5_9 v7_11 v8_12 v9_13) := by
  have hN : ∀ i, Nat.blt i 10 = true → i < gnL G := fun i h => hn ▸ Nat.blt_eq.mp h
  intro n
  induction n with
  | zero => intros; exact w_none _ _ _
  | succ n ih =>
    intros v5_9 v7_11 v8_12 v9_13
    rw [f_X6_shape_37]
    refine w_iload (q := 39) (i := 9) (j := 7) hc dX6_shape_37 rfl rfl ?_
    refine w_iload_n (q := 40) (i := 2) (j := 1) hc dX6_shape_39 rfl rfl rfl ?_
    refine w_icmpge (q := 43) (tgt := 79) hc dX6_shape_40 rfl rfl ?_ ?_
    · refine w_sub [0, 1, 2, 3, 4, 5] rfl ?_
      exact hk0 v5_9 v7_11
    · refine w_iload (q := 45) (i := 5) (j := 3) hc dX6_shape_43 rfl rfl ?_
      refine w_iload (q := 47) (i := 8) (j := 6) hc dX6_shape_45 rfl rfl ?_
      refine w_ishr (q := 48) hc dX6_shape_47  rfl ?_
      refine w_iconst (q := 49) hc dX6_shape_48 ci_1 rfl ?_
      refine w_iand (q := 50) hc dX6_shape_49  rfl ?_
      refine w_ifne (q := 53) (tgt := 79) hc dX6_shape_50 rfl rfl ?_ ?_
      · refine w_iload (q := 55) (i := 5) (j := 3) hc dX6_shape_53 rfl rfl ?_
        refine w_iconst (q := 56) hc dX6_shape_55 ci_1 rfl ?_
        refine w_iload (q := 58) (i := 8) (j := 6) hc dX6_shape_56 rfl rfl ?_
        refine w_ishl (q := 59) hc dX6_shape_58  rfl ?_
        refine w_ior (q := 60) hc dX6_shape_59  rfl ?_
        refine w_istoreB (q := 62) (i := 5) (lv' := fun v5_14 => [(5, .int v5_14), (0, .long v0_6), (2, .int v2_7), (3, .long v3_8), (6, .int v6_10), (7, .int v7_11), (8, .int v8_12), (9, .int v9_13)]) hc dX6_shape_60 (hN 5 rfl) (fun _ => rfl) rfl (fun v5_14 => ?_)
        refine w_lload_n (q := 63) (i := 0) (j := 1) hc dX6_shape_62 rfl rfl rfl ?_
        refine w_iload (q := 65) (i := 8) (j := 6) hc dX6_shape_63 rfl rfl ?_
        refine w_callS_Ri (q := 68) (st := []) (args := [.long v0_6, .int v8_12]) hc (m_X6_image hK hR) dX6_shape_65 ml_X6_15 cf_X6_image st_X6_image rfl rfl (Nat.le_of_ble_eq_true rfl) ⟨Nat.le_of_ble_eq_true rfl, Nat.le_of_ble_eq_true rfl⟩ rfl (fun q_15 => ?_)
        refine w_istore (q := 70) (i := 8) (lv' := [(8, .int q_15), (5, .int v5_14), (0, .long v0_6), (2, .int v2_7), (3, .long v3_8), (6, .int v6_10), (7, .int v7_11), (9, .int v9_13)]) hc dX6_shape_68 (hN 8 rfl) rfl rfl ?_
        refine w_iincB (q := 73) (i := 7) (j := 6) (lv' := fun v7_16 => [(7, .int v7_16), (8, .int q_15), (5, .int v5_14), (0, .long v0_6), (2, .int v2_7), (3, .long v3_8), (6, .int v6_10), (9, .int v9_13)]) hc dX6_shape_70 rfl ci_1 (hN 7 rfl) (fun _ => rfl) rfl (fun v7_16 => ?_)
        refine w_iincB (q := 76) (i := 9) (j := 7) (lv' := fun v9_17 => [(9, .int v9_17), (7, .int v7_16), (8, .int q_15), (5, .int v5_14), (0, .long v0_6), (2, .int v2_7), (3, .long v3_8), (6, .int v6_10)]) hc dX6_shape_73 rfl ci_1 (hN 9 rfl) (fun _ => rfl) rfl (fun v9_17 => ?_)
        refine w_goto (tgt := 37) hc dX6_shape_76 rfl ?_
        refine w_sub [4, 5, 6, 3, 7, 1, 2, 0] rfl ?_
        exact ih v5_14 v7_16 q_15 v9_17
      · refine w_sub [0, 1, 2, 3, 4, 5] rfl ?_
        exact hk0 v5_9 v7_11
set_option maxRecDepth 100000 in
set_option maxHeartbeats 4000000 in
theorem wl_X6_shape_8 {G : GT Int64} {rm : Nat} (v0_1 : Int64) (v2_2 : Int32) {I : MI} {L : ML} (hc : Cx G cX6_shape yX6_shape.cls (some .long) 1 22) (hq : RetQ G anL (meR I L)) (hK : gK G = lK rm) (hR : gR G = lR rm) (hn : gnL G = 10) : ∀ (n : Nat) (v3_3 : Int64) (v5_4 : Int32) (v6_5 : Int32), WW G 8 [(0, .long v0_1), (2, .int v2_2), (3, .long v3_3), (5, .int v5_4), (6, .int v6_5)] [] I L (f_X6_shape_8 v0_1 v2_2 n v3_3 v5_4 v6_5) := by
  have hN : ∀ i, Nat.blt i 10 = true → i < gnL G := fun i h => hn ▸ Nat.blt_eq.mp h
  intro n
  induction n with
  | zero => intros; exact w_none _ _ _
  | succ n ih =>
    intros v3_3 v5_4 v6_5
    rw [f_X6_shape_8]
    refine w_iload (q := 10) (i := 6) (j := 4) hc dX6_shape_8 rfl rfl ?_
    refine w_iload_n (q := 11) (i := 2) (j := 1) hc dX6_shape_10 rfl rfl rfl ?_
    refine w_icmpge (q := 14) (tgt := 96) hc dX6_shape_11 rfl rfl ?_ ?_
    · refine w_lload_n (q := 97) (i := 3) (j := 2) hc dX6_shape_96 rfl rfl rfl ?_
      exact w_lreturn hc hq dX6_shape_97 rfl rfl
    · refine w_iload (q := 16) (i := 5) (j := 3) hc dX6_shape_14 rfl rfl ?_
      refine w_iload (q := 18) (i := 6) (j := 4) hc dX6_shape_16 rfl rfl ?_
      refine w_ishr (q := 19) hc dX6_shape_18  rfl ?_
      refine w_iconst (q := 20) hc dX6_shape_19 ci_1 rfl ?_
      refine w_iand (q := 21) hc dX6_shape_20  rfl ?_
      refine w_ifeq (q := 24) (tgt := 27) hc dX6_shape_21 rfl rfl ?_ ?_
      · refine w_iconst (q := 28) hc dX6_shape_27 ci_0 rfl ?_
        refine w_istore (q := 30) (i := 7) (lv' := [(7, .int 0), (0, .long v0_1), (2, .int v2_2), (3, .long v3_3), (5, .int v5_4), (6, .int v6_5)]) hc dX6_shape_28 (hN 7 rfl) rfl rfl ?_
        refine w_iload (q := 32) (i := 6) (j := 5) hc dX6_shape_30 rfl rfl ?_
        refine w_istore (q := 34) (i := 8) (lv' := [(8, .int v6_5), (7, .int 0), (0, .long v0_1), (2, .int v2_2), (3, .long v3_3), (5, .int v5_4), (6, .int v6_5)]) hc dX6_shape_32 (hN 8 rfl) rfl rfl ?_
        refine w_iconst (q := 35) hc dX6_shape_34 ci_0 rfl ?_
        refine w_istore (q := 37) (i := 9) (lv' := [(9, .int 0), (8, .int v6_5), (7, .int 0), (0, .long v0_1), (2, .int v2_2), (3, .long v3_3), (5, .int v5_4), (6, .int v6_5)]) hc dX6_shape_35 (hN 9 rfl) rfl rfl ?_
        refine w_sub [3, 4, 5, 6, 7, 2, 1, 0] rfl ?_
        refine wl_X6_shape_37 v0_1 v2_2 v3_3 v6_5 hc hq hK hR hn _ ?_ FU v5_4 0 v6_5 0
        intro v5_18 v7_19
        refine w_lload_n (q := 80) (i := 3) (j := 2) hc dX6_shape_79 rfl rfl rfl ?_
        refine w_lconst (q := 81) hc dX6_shape_80 cl_1 rfl ?_
        refine w_iconst (q := 82) hc dX6_shape_81 ci_4 rfl ?_
        refine w_iload (q := 84) (i := 7) (j := 5) hc dX6_shape_82 rfl rfl ?_
        refine w_imul (q := 85) hc dX6_shape_84  rfl ?_
        refine w_iconst (q := 86) hc dX6_shape_85 ci_4 rfl ?_
        refine w_isub (q := 87) hc dX6_shape_86  rfl ?_
        refine w_lshl (q := 88) hc dX6_shape_87  rfl ?_
        refine w_ladd (q := 89) hc dX6_shape_88  rfl ?_
        refine w_lstore_nB (q := 90) (i := 3) (lv' := fun v3_20 => [(3, .long v3_20), (0, .long v0_1), (2, .int v2_2), (5, .int v5_18), (6, .int v6_5), (7, .int v7_19)]) hc dX6_shape_89 rfl (hN 4 rfl) (fun _ => rfl) rfl (fun v3_20 => ?_)
        refine w_iincB (q := 93) (i := 6) (j := 4) (lv' := fun v6_21 => [(6, .int v6_21), (3, .long v3_20), (0, .long v0_1), (2, .int v2_2), (5, .int v5_18), (7, .int v7_19)]) hc dX6_shape_90 rfl ci_1 (hN 6 rfl) (fun _ => rfl) rfl (fun v6_21 => ?_)
        refine w_goto (tgt := 8) hc dX6_shape_93 rfl ?_
        refine w_sub [2, 3, 1, 4, 0] rfl ?_
        exact ih v3_20 v5_18 v6_21
      · refine w_goto (tgt := 90) hc dX6_shape_24 rfl ?_
        refine w_iincB (q := 93) (i := 6) (j := 4) (lv' := fun v6_22 => [(6, .int v6_22), (0, .long v0_1), (2, .int v2_2), (3, .long v3_3), (5, .int v5_4)]) hc dX6_shape_90 rfl ci_1 (hN 6 rfl) (fun _ => rfl) rfl (fun v6_22 => ?_)
        refine w_goto (tgt := 8) hc dX6_shape_93 rfl ?_
        refine w_sub [1, 2, 3, 4, 0] rfl ?_
        exact ih v3_3 v5_4 v6_22
set_option maxRecDepth 100000 in
set_option maxHeartbeats 4000000 in
theorem m_X6_shape {l : Launch} {K : KT} {R : MR} {rm : Nat} {a0 : Int64} {a2 : Int32} {I : MI} {L : ML} (hK0 : K = lK rm) (hR0 : R = lR rm) : MFg l yX6_shape cX6_shape 10 (some .long) 1 22 [.long a0, .int a2] K R I L anL (meR I L) (f_X6_shape a0 a2) := by
  refine mf_of (plainFor_of_name (by decide)) (Nat.le_of_ble_eq_true rfl) ?_
  intro G hc _ hK1 hR1 hn hq
  have hK := hK1.trans hK0
  have hR := hR1.trans hR0
  have hN : ∀ i, Nat.blt i 10 = true → i < gnL G := fun i h => hn ▸ Nat.blt_eq.mp h
  unfold f_X6_shape
  show WW G 0 [(0, .long a0), (2, .int a2)] [] I L _
  refine w_lconst (q := 1) hc dX6_shape_0 cl_0 rfl ?_
  refine w_lstore_n (q := 2) (i := 3) (lv' := [(3, .long 0), (0, .long a0), (2, .int a2)]) hc dX6_shape_1 rfl (hN 4 rfl) rfl rfl ?_
  refine w_iconst (q := 3) hc dX6_shape_2 ci_0 rfl ?_
  refine w_istore (q := 5) (i := 5) (lv' := [(5, .int 0), (3, .long 0), (0, .long a0), (2, .int a2)]) hc dX6_shape_3 (hN 5 rfl) rfl rfl ?_
  refine w_iconst (q := 6) hc dX6_shape_5 ci_0 rfl ?_
  refine w_istore (q := 8) (i := 6) (lv' := [(6, .int 0), (5, .int 0), (3, .long 0), (0, .long a0), (2, .int a2)]) hc dX6_shape_6 (hN 6 rfl) rfl rfl ?_
  refine w_sub [3, 4, 2, 1, 0] rfl ?_
  exact wl_X6_shape_8 a0 a2 hc hq hK hR hn FU 0 0 0
set_option maxRecDepth 100000 in
set_option maxHeartbeats 4000000 in
theorem wl_X6_commute_3 {G : GT Bool} {rm : Nat} (v0_1 : Int64) (v2_2 : Int64) (v4_3 : Int32) {I : MI} {L : ML} (hc : Cx G cX6_commute yX6_commute.cls (some .boolean) 1 22) (hq : RetQ G anZ (meR I L)) (hK : gK G = lK rm) (hR : gR G = lR rm) (hn : gnL G = 6) : ∀ (n : Nat) (v5_4 : Int32), WW G 3 [(0, .long v0_1), (2, .long v2_2), (4, .int v4_3), (5, .int v5_4)] [] I L (f_X6_commute_3 v0_1 v2_2 v4_3 n v5_4) := by
  have hN : ∀ i, Nat.blt i 6 = true → i < gnL G := fun i h => hn ▸ Nat.blt_eq.mp h
  intro n
  induction n with
  | zero => intros; exact w_none _ _ _
  | succ n ih =>
    intros v5_4
    rw [f_X6_commute_3]
    refine w_iload (q := 5) (i := 5) (j := 3) hc dX6_commute_3 rfl rfl ?_
    refine w_iload (q := 7) (i := 4) (j := 2) hc dX6_commute_5 rfl rfl ?_
    refine w_icmpge (q := 10) (tgt := 41) hc dX6_commute_7 rfl rfl ?_ ?_
    · refine w_iconst (q := 42) hc dX6_commute_41 ci_1 rfl ?_
      exact w_ireturn (v := b2i true) hc hq dX6_commute_42 (nar_b2i true) rfl rfl
    · refine w_lload_n (q := 11) (i := 2) (j := 1) hc dX6_commute_10 rfl rfl rfl ?_
      refine w_lload_n (q := 12) (i := 0) (j := 0) hc dX6_commute_11 rfl rfl rfl ?_
      refine w_iload (q := 14) (i := 5) (j := 3) hc dX6_commute_12 rfl rfl ?_
      refine w_callS_Ri (q := 17) (st := [.long v2_2]) (args := [.long v0_1, .int v5_4]) hc (m_X6_image hK hR) dX6_commute_14 ml_X6_15 cf_X6_image st_X6_image rfl rfl (Nat.le_of_ble_eq_true rfl) ⟨Nat.le_of_ble_eq_true rfl, Nat.le_of_ble_eq_true rfl⟩ rfl (fun q_5 => ?_)
      refine w_callS_Ri (q := 20) (st := []) (args := [.long v2_2, .int q_5]) hc (m_X6_image hK hR) dX6_commute_17 ml_X6_15 cf_X6_image st_X6_image rfl rfl (Nat.le_of_ble_eq_true rfl) ⟨Nat.le_of_ble_eq_true rfl, Nat.le_of_ble_eq_true rfl⟩ rfl (fun q_6 => ?_)
      refine w_lload_n (q := 21) (i := 0) (j := 0) hc dX6_commute_20 rfl rfl rfl ?_
      refine w_lload_n (q := 22) (i := 2) (j := 1) hc dX6_commute_21 rfl rfl rfl ?_
      refine w_iload (q := 24) (i := 5) (j := 3) hc dX6_commute_22 rfl rfl ?_
      refine w_callS_Ri (q := 27) (st := [.long v0_1, .int q_6]) (args := [.long v2_2, .int v5_4]) hc (m_X6_image hK hR) dX6_commute_24 ml_X6_15 cf_X6_image st_X6_image rfl rfl (Nat.le_of_ble_eq_true rfl) ⟨Nat.le_of_ble_eq_true rfl, Nat.le_of_ble_eq_true rfl⟩ rfl (fun q_7 => ?_)
      refine w_callS_Ri (q := 30) (st := [.int q_6]) (args := [.long v0_1, .int q_7]) hc (m_X6_image hK hR) dX6_commute_27 ml_X6_15 cf_X6_image st_X6_image rfl rfl (Nat.le_of_ble_eq_true rfl) ⟨Nat.le_of_ble_eq_true rfl, Nat.le_of_ble_eq_true rfl⟩ rfl (fun q_8 => ?_)
      refine w_icmpeq (q := 33) (tgt := 35) hc dX6_commute_30 rfl rfl ?_ ?_
      · refine w_iincB (q := 38) (i := 5) (j := 3) (lv' := fun v5_9 => [(5, .int v5_9), (0, .long v0_1), (2, .long v2_2), (4, .int v4_3)]) hc dX6_commute_35 rfl ci_1 (hN 5 rfl) (fun _ => rfl) rfl (fun v5_9 => ?_)
        refine w_goto (tgt := 3) hc dX6_commute_38 rfl ?_
        refine w_sub [1, 2, 3, 0] rfl ?_
        exact ih v5_9
      · refine w_iconst (q := 34) hc dX6_commute_33 ci_0 rfl ?_
        exact w_ireturn (v := b2i false) hc hq dX6_commute_34 (nar_b2i false) rfl rfl
set_option maxRecDepth 100000 in
set_option maxHeartbeats 4000000 in
theorem m_X6_commute {l : Launch} {K : KT} {R : MR} {rm : Nat} {a0 : Int64} {a2 : Int64} {a4 : Int32} {I : MI} {L : ML} (hK0 : K = lK rm) (hR0 : R = lR rm) : MFg l yX6_commute cX6_commute 6 (some .boolean) 1 22 [.long a0, .long a2, .int a4] K R I L anZ (meR I L) (f_X6_commute a0 a2 a4) := by
  refine mf_of (plainFor_of_name (by decide)) (Nat.le_of_ble_eq_true rfl) ?_
  intro G hc _ hK1 hR1 hn hq
  have hK := hK1.trans hK0
  have hR := hR1.trans hR0
  have hN : ∀ i, Nat.blt i 6 = true → i < gnL G := fun i h => hn ▸ Nat.blt_eq.mp h
  unfold f_X6_commute
  show WW G 0 [(0, .long a0), (2, .long a2), (4, .int a4)] [] I L _
  refine w_iconst (q := 1) hc dX6_commute_0 ci_0 rfl ?_
  refine w_istore (q := 3) (i := 5) (lv' := [(5, .int 0), (0, .long a0), (2, .long a2), (4, .int a4)]) hc dX6_commute_1 (hN 5 rfl) rfl rfl ?_
  refine w_sub [1, 2, 3, 0] rfl ?_
  exact wl_X6_commute_3 a0 a2 a4 hc hq hK hR hn FU 0
set_option maxRecDepth 100000 in
set_option maxHeartbeats 4000000 in
theorem wl_X6_cycles_4 {G : GT Int32} {rm : Nat} (v0_1 : Int64) {I : MI} {L : ML} (hc : Cx G cX6_cycles yX6_cycles.cls (some .int) 0 0) (hq : RetQ G anI (meR I L)) (hK : gK G = lK rm) (hR : gR G = lR rm) (hn : gnL G = 4) : ∀ (n : Nat) (v2_2 : Int32) (v3_3 : Int32), WW G 4 [(0, .long v0_1), (2, .int v2_2), (3, .int v3_3)] [] I L (f_X6_cycles_4 v0_1 n v2_2 v3_3) := by
  have hN : ∀ i, Nat.blt i 4 = true → i < gnL G := fun i h => hn ▸ Nat.blt_eq.mp h
  intro n
  induction n with
  | zero => intros; exact w_none _ _ _
  | succ n ih =>
    intros v2_2 v3_3
    rw [f_X6_cycles_4]
    refine w_iload_n (q := 5) (i := 3) (j := 2) hc dX6_cycles_4 rfl rfl rfl ?_
    refine w_bipush (q := 7) hc dX6_cycles_5 cb_40 rfl ?_
    refine w_icmpge (q := 10) (tgt := 26) hc dX6_cycles_7 rfl rfl ?_ ?_
    · refine w_iload_n (q := 27) (i := 2) (j := 1) hc dX6_cycles_26 rfl rfl rfl ?_
      exact w_ireturn (v := v2_2) hc hq dX6_cycles_27 rfl rfl rfl
    · refine w_iload_n (q := 11) (i := 2) (j := 1) hc dX6_cycles_10 rfl rfl rfl ?_
      refine w_lload_n (q := 12) (i := 0) (j := 0) hc dX6_cycles_11 rfl rfl rfl ?_
      refine w_iload_n (q := 13) (i := 3) (j := 2) hc dX6_cycles_12 rfl rfl rfl ?_
      refine w_lushr (q := 14) hc dX6_cycles_13  rfl ?_
      refine w_l2i (q := 15) hc dX6_cycles_14  rfl ?_
      refine w_bipush (q := 17) hc dX6_cycles_15 cb_15 rfl ?_
      refine w_iand (q := 18) hc dX6_cycles_17  rfl ?_
      refine w_iadd (q := 19) hc dX6_cycles_18  rfl ?_
      refine w_istore_nB (q := 20) (i := 2) (lv' := fun v2_4 => [(2, .int v2_4), (0, .long v0_1), (3, .int v3_3)]) hc dX6_cycles_19 rfl (hN 2 rfl) (fun _ => rfl) rfl (fun v2_4 => ?_)
      refine w_iincB (q := 23) (i := 3) (j := 2) (lv' := fun v3_5 => [(3, .int v3_5), (2, .int v2_4), (0, .long v0_1)]) hc dX6_cycles_20 rfl ci_4 (hN 3 rfl) (fun _ => rfl) rfl (fun v3_5 => ?_)
      refine w_goto (tgt := 4) hc dX6_cycles_23 rfl ?_
      refine w_sub [2, 1, 0] rfl ?_
      exact ih v2_4 v3_5
set_option maxRecDepth 100000 in
set_option maxHeartbeats 4000000 in
theorem m_X6_cycles {l : Launch} {K : KT} {R : MR} {rm : Nat} {a0 : Int64} {I : MI} {L : ML} (hK0 : K = lK rm) (hR0 : R = lR rm) : MFg l yX6_cycles cX6_cycles 4 (some .int) 0 0 [.long a0] K R I L anI (meR I L) (f_X6_cycles a0) := by
  refine mf_of (plainFor_of_name (by decide)) (Nat.le_of_ble_eq_true rfl) ?_
  intro G hc _ hK1 hR1 hn hq
  have hK := hK1.trans hK0
  have hR := hR1.trans hR0
  have hN : ∀ i, Nat.blt i 4 = true → i < gnL G := fun i h => hn ▸ Nat.blt_eq.mp h
  unfold f_X6_cycles
  show WW G 0 [(0, .long a0)] [] I L _
  refine w_iconst (q := 1) hc dX6_cycles_0 ci_0 rfl ?_
  refine w_istore_n (q := 2) (i := 2) (lv' := [(2, .int 0), (0, .long a0)]) hc dX6_cycles_1 rfl (hN 2 rfl) rfl rfl ?_
  refine w_iconst (q := 3) hc dX6_cycles_2 ci_0 rfl ?_
  refine w_istore_n (q := 4) (i := 3) (lv' := [(3, .int 0), (2, .int 0), (0, .long a0)]) hc dX6_cycles_3 rfl (hN 3 rfl) rfl rfl ?_
  refine w_sub [2, 1, 0] rfl ?_
  exact wl_X6_cycles_4 a0 hc hq hK hR hn FU 0 0
set_option maxRecDepth 100000 in
set_option maxHeartbeats 4000000 in
theorem m_X6_isEven {l : Launch} {K : KT} {R : MR} {rm : Nat} {a0 : Int64} {a2 : Int32} {I : MI} {L : ML} (hK0 : K = lK rm) (hR0 : R = lR rm) : MFg l yX6_isEven cX6_isEven 3 (some .boolean) 2 51 [.long a0, .int a2] K R I L anZ (meR I L) (f_X6_isEven a0 a2) := by
  refine mf_of (plainFor_of_name (by decide)) (Nat.le_of_ble_eq_true rfl) ?_
  intro G hc _ hK1 hR1 hn hq
  have hK := hK1.trans hK0
  have hR := hR1.trans hR0
  have hN : ∀ i, Nat.blt i 3 = true → i < gnL G := fun i h => hn ▸ Nat.blt_eq.mp h
  unfold f_X6_isEven
  show WW G 0 [(0, .long a0), (2, .int a2)] [] I L _
  refine w_iload_n (q := 1) (i := 2) (j := 1) hc dX6_isEven_0 rfl rfl rfl ?_
  refine w_lload_n (q := 2) (i := 0) (j := 0) hc dX6_isEven_1 rfl rfl rfl ?_
  refine w_iload_n (q := 3) (i := 2) (j := 1) hc dX6_isEven_2 rfl rfl rfl ?_
  refine w_callS_Rl (q := 6) (st := [.int a2]) (args := [.long a0, .int a2]) hc (m_X6_shape hK hR) dX6_isEven_3 ml_X6_40 cf_X6_shape st_X6_shape rfl rfl (Nat.le_of_ble_eq_true rfl) ⟨Nat.le_of_ble_eq_true rfl, Nat.le_of_ble_eq_true rfl⟩ rfl (fun q_1 => ?_)
  refine w_callS_Ri (q := 9) (st := [.int a2]) (args := [.long q_1]) hc (m_X6_cycles hK hR) dX6_isEven_6 ml_X6_43 cf_X6_cycles st_X6_cycles rfl rfl (Nat.le_of_ble_eq_true rfl) ⟨Nat.le_of_ble_eq_true rfl, Nat.le_of_ble_eq_true rfl⟩ rfl (fun q_2 => ?_)
  refine w_isub (q := 10) hc dX6_isEven_9  rfl ?_
  refine w_iconst (q := 11) hc dX6_isEven_10 ci_1 rfl ?_
  refine w_iand (q := 12) hc dX6_isEven_11  rfl ?_
  refine w_ifne (q := 15) (tgt := 19) hc dX6_isEven_12 rfl rfl ?_ ?_
  · refine w_iconst (q := 16) hc dX6_isEven_15 ci_1 rfl ?_
    refine w_goto (tgt := 20) hc dX6_isEven_16 rfl ?_
    exact w_ireturn (v := b2i true) hc hq dX6_isEven_20 (nar_b2i true) rfl rfl
  · refine w_iconst (q := 20) hc dX6_isEven_19 ci_0 rfl ?_
    exact w_ireturn (v := b2i false) hc hq dX6_isEven_20 (nar_b2i false) rfl rfl
set_option maxRecDepth 100000 in
set_option maxHeartbeats 4000000 in
theorem m_X6_with {l : Launch} {K : KT} {R : MR} {rm : Nat} {a0 : Int64} {a2 : Int32} {a3 : Int32} {I : MI} {L : ML} (hK0 : K = lK rm) (hR0 : R = lR rm) : MFg l yX6_with cX6_with 5 (some .long) 0 0 [.long a0, .int a2, .int a3] K R I L anL (meR I L) (f_X6_with a0 a2 a3) := by
  refine mf_of (plainFor_of_name (by decide)) (Nat.le_of_ble_eq_true rfl) ?_
  intro G hc _ hK1 hR1 hn hq
  have hK := hK1.trans hK0
  have hR := hR1.trans hR0
  have hN : ∀ i, Nat.blt i 5 = true → i < gnL G := fun i h => hn ▸ Nat.blt_eq.mp h
  unfold f_X6_with
  show WW G 0 [(0, .long a0), (2, .int a2), (3, .int a3)] [] I L _
  refine w_bipush (q := 2) hc dX6_with_0 cb_36 rfl ?_
  refine w_iconst (q := 3) hc dX6_with_2 ci_4 rfl ?_
  refine w_iload_n (q := 4) (i := 2) (j := 1) hc dX6_with_3 rfl rfl rfl ?_
  refine w_imul (q := 5) hc dX6_with_4  rfl ?_
  refine w_isub (q := 6) hc dX6_with_5  rfl ?_
  refine w_istoreB (q := 8) (i := 4) (lv' := fun v4_1 => [(4, .int v4_1), (0, .long a0), (2, .int a2), (3, .int a3)]) hc dX6_with_6 (hN 4 rfl) (fun _ => rfl) rfl (fun v4_1 => ?_)
  refine w_lload_n (q := 9) (i := 0) (j := 1) hc dX6_with_8 rfl rfl rfl ?_
  refine w_ldc2 (q := 12) hc dX6_with_9 kl_X6_11 rfl ?_
  refine w_iload (q := 14) (i := 4) (j := 0) hc dX6_with_12 rfl rfl ?_
  refine w_lshl (q := 15) hc dX6_with_14  rfl ?_
  refine w_ldc2 (q := 18) hc dX6_with_15 kl_X6_13 rfl ?_
  refine w_lxor (q := 19) hc dX6_with_18  rfl ?_
  refine w_land (q := 20) hc dX6_with_19  rfl ?_
  refine w_iload_n (q := 21) (i := 3) (j := 3) hc dX6_with_20 rfl rfl rfl ?_
  refine w_i2l (q := 22) hc dX6_with_21  rfl ?_
  refine w_iload (q := 24) (i := 4) (j := 0) hc dX6_with_22 rfl rfl ?_
  refine w_lshl (q := 25) hc dX6_with_24  rfl ?_
  refine w_lor (q := 26) hc dX6_with_25  rfl ?_
  exact w_lreturn hc hq dX6_with_26 rfl rfl
set_option maxRecDepth 100000 in
set_option maxHeartbeats 4000000 in
theorem wl_X6_imageOfPower_66 {G : GT Int32} {rm : Nat} (v0_14 : Int64) (v6_16 : Int32) {I : MI} {L : ML} (hc : Cx G cX6_imageOfPower yX6_imageOfPower.cls (some .int) 1 22) (hq : RetQ G anI (meR I L)) (hK : gK G = lK rm) (hR : gR G = lR rm) (hn : gnL G = 8) : ∀ (n : Nat) (v5_15 : Int32) (v7_17 : Int32), WW G 66 [(0, .long v0_14), (5, .int v5_15), (6, .int v6_16), (7, .int v7_17)] [] I L (f_X6_imageOfPower_66 v0_14 v6_16 n v5_15 v7_17) := by
  have hN : ∀ i, Nat.blt i 8 = true → i < gnL G := fun i h => hn ▸ Nat.blt_eq.mp h
  intro n
  induction n with
  | zero => intros; exact w_none _ _ _
  | succ n ih =>
    intros v5_15 v7_17
    rw [f_X6_imageOfPower_66]
    refine w_iload (q := 68) (i := 7) (j := 3) hc dX6_imageOfPower_66 rfl rfl ?_
    refine w_iload (q := 70) (i := 6) (j := 2) hc dX6_imageOfPower_68 rfl rfl ?_
    refine w_icmpge (q := 73) (tgt := 87) hc dX6_imageOfPower_70 rfl rfl ?_ ?_
    · refine w_iload (q := 89) (i := 5) (j := 1) hc dX6_imageOfPower_87 rfl rfl ?_
      exact w_ireturn (v := v5_15) hc hq dX6_imageOfPower_89 rfl rfl rfl
    · refine w_lload_n (q := 74) (i := 0) (j := 0) hc dX6_imageOfPower_73 rfl rfl rfl ?_
      refine w_iload (q := 76) (i := 5) (j := 1) hc dX6_imageOfPower_74 rfl rfl ?_
      refine w_callS_Ri (q := 79) (st := []) (args := [.long v0_14, .int v5_15]) hc (m_X6_image hK hR) dX6_imageOfPower_76 ml_X6_15 cf_X6_image st_X6_image rfl rfl (Nat.le_of_ble_eq_true rfl) ⟨Nat.le_of_ble_eq_true rfl, Nat.le_of_ble_eq_true rfl⟩ rfl (fun q_18 => ?_)
      refine w_istore (q := 81) (i := 5) (lv' := [(5, .int q_18), (0, .long v0_14), (6, .int v6_16), (7, .int v7_17)]) hc dX6_imageOfPower_79 (hN 5 rfl) rfl rfl ?_
      refine w_iincB (q := 84) (i := 7) (j := 3) (lv' := fun v7_19 => [(7, .int v7_19), (5, .int q_18), (0, .long v0_14), (6, .int v6_16)]) hc dX6_imageOfPower_81 rfl ci_1 (hN 7 rfl) (fun _ => rfl) rfl (fun v7_19 => ?_)
      refine w_goto (tgt := 66) hc dX6_imageOfPower_84 rfl ?_
      refine w_sub [2, 1, 3, 0] rfl ?_
      exact ih q_18 v7_19
set_option maxRecDepth 100000 in
set_option maxHeartbeats 4000000 in
theorem wl_X6_imageOfPower_13 {G : GT Int32} {rm : Nat} (v0_2 : Int64) (v2_3 : Int32) (v3_4 : Int32) {I : MI} {L : ML} (hc : Cx G cX6_imageOfPower yX6_imageOfPower.cls (some .int) 1 22) (hq : RetQ G anI (meR I L)) (hK : gK G = lK rm) (hR : gR G = lR rm) (hn : gnL G = 8) (k0 : Int32 → Option Int32) (hk0 : ∀ (v4_11 : Int32), WW G 43 [(0, .long v0_2), (2, .int v2_3), (3, .int v3_4), (4, .int v4_11)] [] I L (k0 v4_11)) : ∀ (n : Nat) (v4_5 : Int32) (v5_6 : Int32) (v6_7 : Int32), WW G 13 [(0, .long v0_2), (2, .int v2_3), (3, .int v3_4), (4, .int v4_5), (5, .int v5_6), (6, .int v6_7)] [] I L (f_X6_imageOfPower_13 v0_2 v2_3 v3_4 k0 n v4_5 v5_6 v6_7) := by
  have hN : ∀ i, Nat.blt i 8 = true → i < gnL G := fun i h => hn ▸ Nat.blt_eq.mp h
  intro n
  induction n with
  | zero => intros; exact w_none _ _ _
  | succ n ih =>
    intros v4_5 v5_6 v6_7
    rw [f_X6_imageOfPower_13]
    refine w_iload (q := 15) (i := 6) (j := 5) hc dX6_imageOfPower_13 rfl rfl ?_
    refine w_bipush (q := 17) hc dX6_imageOfPower_15 cb_10 rfl ?_
    refine w_icmpge (q := 20) (tgt := 43) hc dX6_imageOfPower_17 rfl rfl ?_ ?_
    · refine w_sub [0, 1, 2, 3] rfl ?_
      exact hk0 v4_5
    · refine w_iload (q := 22) (i := 5) (j := 4) hc dX6_imageOfPower_20 rfl rfl ?_
      refine w_iload_n (q := 23) (i := 2) (j := 1) hc dX6_imageOfPower_22 rfl rfl rfl ?_
      refine w_icmpeq (q := 26) (tgt := 43) hc dX6_imageOfPower_23 rfl rfl ?_ ?_
      · refine w_sub [0, 1, 2, 3] rfl ?_
        exact hk0 v4_5
      · refine w_lload_n (q := 27) (i := 0) (j := 0) hc dX6_imageOfPower_26 rfl rfl rfl ?_
        refine w_iload (q := 29) (i := 5) (j := 4) hc dX6_imageOfPower_27 rfl rfl ?_
        refine w_callS_Ri (q := 32) (st := []) (args := [.long v0_2, .int v5_6]) hc (m_X6_image hK hR) dX6_imageOfPower_29 ml_X6_15 cf_X6_image st_X6_image rfl rfl (Nat.le_of_ble_eq_true rfl) ⟨Nat.le_of_ble_eq_true rfl, Nat.le_of_ble_eq_true rfl⟩ rfl (fun q_8 => ?_)
        refine w_istore (q := 34) (i := 5) (lv' := [(5, .int q_8), (0, .long v0_2), (2, .int v2_3), (3, .int v3_4), (4, .int v4_5), (6, .int v6_7)]) hc dX6_imageOfPower_32 (hN 5 rfl) rfl rfl ?_
        refine w_iincB (q := 37) (i := 4) (j := 4) (lv' := fun v4_9 => [(4, .int v4_9), (5, .int q_8), (0, .long v0_2), (2, .int v2_3), (3, .int v3_4), (6, .int v6_7)]) hc dX6_imageOfPower_34 rfl ci_1 (hN 4 rfl) (fun _ => rfl) rfl (fun v4_9 => ?_)
        refine w_iincB (q := 40) (i := 6) (j := 5) (lv' := fun v6_10 => [(6, .int v6_10), (4, .int v4_9), (5, .int q_8), (0, .long v0_2), (2, .int v2_3), (3, .int v3_4)]) hc dX6_imageOfPower_37 rfl ci_1 (hN 6 rfl) (fun _ => rfl) rfl (fun v6_10 => ?_)
        refine w_goto (tgt := 13) hc dX6_imageOfPower_40 rfl ?_
        refine w_sub [3, 4, 5, 1, 2, 0] rfl ?_
        exact ih v4_9 q_8 v6_10
set_option maxRecDepth 100000 in
set_option maxHeartbeats 4000000 in
theorem m_X6_imageOfPower {l : Launch} {K : KT} {R : MR} {rm : Nat} {a0 : Int64} {a2 : Int32} {a3 : Int32} {I : MI} {L : ML} (hK0 : K = lK rm) (hR0 : R = lR rm) : MFg l yX6_imageOfPower cX6_imageOfPower 8 (some .int) 1 22 [.long a0, .int a2, .int a3] K R I L anI (meR I L) (f_X6_imageOfPower a0 a2 a3) := by
  refine mf_of (plainFor_of_name (by decide)) (Nat.le_of_ble_eq_true rfl) ?_
  intro G hc _ hK1 hR1 hn hq
  have hK := hK1.trans hK0
  have hR := hR1.trans hR0
  have hN : ∀ i, Nat.blt i 8 = true → i < gnL G := fun i h => hn ▸ Nat.blt_eq.mp h
  unfold f_X6_imageOfPower
  show WW G 0 [(0, .long a0), (2, .int a2), (3, .int a3)] [] I L _
  refine w_iconst (q := 1) hc dX6_imageOfPower_0 ci_1 rfl ?_
  refine w_istore (q := 3) (i := 4) (lv' := [(4, .int 1), (0, .long a0), (2, .int a2), (3, .int a3)]) hc dX6_imageOfPower_1 (hN 4 rfl) rfl rfl ?_
  refine w_lload_n (q := 4) (i := 0) (j := 1) hc dX6_imageOfPower_3 rfl rfl rfl ?_
  refine w_iload_n (q := 5) (i := 2) (j := 2) hc dX6_imageOfPower_4 rfl rfl rfl ?_
  refine w_callS_Ri (q := 8) (st := []) (args := [.long a0, .int a2]) hc (m_X6_image hK hR) dX6_imageOfPower_5 ml_X6_15 cf_X6_image st_X6_image rfl rfl (Nat.le_of_ble_eq_true rfl) ⟨Nat.le_of_ble_eq_true rfl, Nat.le_of_ble_eq_true rfl⟩ rfl (fun q_1 => ?_)
  refine w_istore (q := 10) (i := 5) (lv' := [(5, .int q_1), (4, .int 1), (0, .long a0), (2, .int a2), (3, .int a3)]) hc dX6_imageOfPower_8 (hN 5 rfl) rfl rfl ?_
  refine w_iconst (q := 11) hc dX6_imageOfPower_10 ci_0 rfl ?_
  refine w_istore (q := 13) (i := 6) (lv' := [(6, .int 0), (5, .int q_1), (4, .int 1), (0, .long a0), (2, .int a2), (3, .int a3)]) hc dX6_imageOfPower_11 (hN 6 rfl) rfl rfl ?_
  refine w_sub [3, 4, 5, 2, 1, 0] rfl ?_
  refine wl_X6_imageOfPower_13 a0 a2 a3 hc hq hK hR hn _ ?_ FU 1 q_1 0
  intro v4_11
  refine w_iload (q := 45) (i := 4) (j := 3) hc dX6_imageOfPower_43 rfl rfl ?_
  refine w_join (fun j58_12 : Int32 → Option Int32 => ∀ (s0_13 : Int32), WW G 58 [(0, .long a0), (2, .int a2)] [.int s0_13] I L (j58_12 s0_13)) ?_ ?_
  · intro s0_13
    refine w_istore (q := 60) (i := 6) (lv' := [(6, .int s0_13), (0, .long a0), (2, .int a2)]) hc dX6_imageOfPower_58 (hN 6 rfl) rfl rfl ?_
    refine w_iload_n (q := 61) (i := 2) (j := 2) hc dX6_imageOfPower_60 rfl rfl rfl ?_
    refine w_istore (q := 63) (i := 5) (lv' := [(5, .int a2), (6, .int s0_13), (0, .long a0), (2, .int a2)]) hc dX6_imageOfPower_61 (hN 5 rfl) rfl rfl ?_
    refine w_iconst (q := 64) hc dX6_imageOfPower_63 ci_0 rfl ?_
    refine w_istore (q := 66) (i := 7) (lv' := [(7, .int 0), (5, .int a2), (6, .int s0_13), (0, .long a0), (2, .int a2)]) hc dX6_imageOfPower_64 (hN 7 rfl) rfl rfl ?_
    refine w_sub [3, 1, 2, 0] rfl ?_
    exact wl_X6_imageOfPower_66 a0 s0_13 hc hq hK hR hn FU a2 0
  · intro j58_12 hj58_12
    refine w_ifle (q := 48) (tgt := 57) hc dX6_imageOfPower_45 rfl rfl ?_ ?_
    · refine w_iconst (q := 58) hc dX6_imageOfPower_57 ci_0 rfl ?_
      refine w_sub [0, 1] rfl ?_
      exact hj58_12 0
    · refine w_iload_n (q := 49) (i := 3) (j := 2) hc dX6_imageOfPower_48 rfl rfl rfl ?_
      refine w_iload (q := 51) (i := 4) (j := 3) hc dX6_imageOfPower_49 rfl rfl ?_
      refine w_callS_Ri (q := 54) (st := []) (args := [.int a3, .int v4_11]) hc (m_J9_floorMod_7cf53 hK hR) dX6_imageOfPower_51 ml_X6_27 cf_J9_floorMod_7cf53 st_J9_floorMod_7cf53 rfl rfl (Nat.le_of_ble_eq_true rfl) ⟨Nat.le_of_ble_eq_true rfl, Nat.le_of_ble_eq_true rfl⟩ rfl (fun q_12 => ?_)
      refine w_goto (tgt := 58) hc dX6_imageOfPower_54 rfl ?_
      refine w_sub [0, 1] rfl ?_
      exact hj58_12 q_12
set_option maxRecDepth 100000 in
set_option maxHeartbeats 4000000 in
theorem m_X6_staying {l : Launch} {K : KT} {R : MR} {rm : Nat} {a0 : Int64} {I : MI} {L : ML} (hK0 : K = lK rm) (hR0 : R = lR rm) : MFg l yX6_staying cX6_staying 2 (some .int) 0 0 [.long a0] K R I L anI (meR I L) (f_X6_staying a0) := by
  refine mf_of (plainFor_of_name (by decide)) (Nat.le_of_ble_eq_true rfl) ?_
  intro G hc _ hK1 hR1 hn hq
  have hK := hK1.trans hK0
  have hR := hR1.trans hR0
  have hN : ∀ i, Nat.blt i 2 = true → i < gnL G := fun i h => hn ▸ Nat.blt_eq.mp h
  unfold f_X6_staying
  show WW G 0 [(0, .long a0)] [] I L _
  refine w_lload_n (q := 1) (i := 0) (j := 0) hc dX6_staying_0 rfl rfl rfl ?_
  refine w_l2i (q := 2) hc dX6_staying_1  rfl ?_
  refine w_bipush (q := 4) hc dX6_staying_2 cb_15 rfl ?_
  refine w_iand (q := 5) hc dX6_staying_4  rfl ?_
  exact w_ireturn (v := ((Int64.toInt32 a0) &&& 15)) hc hq dX6_staying_5 rfl rfl rfl
set_option maxRecDepth 100000 in
set_option maxHeartbeats 4000000 in
theorem wl_X6_commonDivisor_7 {G : GT Int32} {rm : Nat} {I : MI} {L : ML} (hc : Cx G cX6_commonDivisor yX6_commonDivisor.cls (some .int) 0 0) (hq : RetQ G anI (meR I L)) (hK : gK G = lK rm) (hR : gR G = lR rm) (hn : gnL G = 6) : ∀ (n : Nat) (v2_1 : Int32) (v3_2 : Int32) (v4_3 : Int32), WW G 7 [(2, .int v2_1), (3, .int v3_2), (4, .int v4_3)] [] I L (f_X6_commonDivisor_7 n v2_1 v3_2 v4_3) := by
  have hN : ∀ i, Nat.blt i 6 = true → i < gnL G := fun i h => hn ▸ Nat.blt_eq.mp h
  intro n
  induction n with
  | zero => intros; exact w_none _ _ _
  | succ n ih =>
    intros v2_1 v3_2 v4_3
    rw [f_X6_commonDivisor_7]
    refine w_iload (q := 9) (i := 4) (j := 2) hc dX6_commonDivisor_7 rfl rfl ?_
    refine w_bipush (q := 11) hc dX6_commonDivisor_9 cb_64 rfl ?_
    refine w_icmpge (q := 14) (tgt := 34) hc dX6_commonDivisor_11 rfl rfl ?_ ?_
    · refine w_iload_n (q := 35) (i := 2) (j := 0) hc dX6_commonDivisor_34 rfl rfl rfl ?_
      exact w_ireturn (v := v2_1) hc hq dX6_commonDivisor_35 rfl rfl rfl
    · refine w_iload_n (q := 15) (i := 3) (j := 1) hc dX6_commonDivisor_14 rfl rfl rfl ?_
      refine w_ifeq (q := 18) (tgt := 34) hc dX6_commonDivisor_15 rfl rfl ?_ ?_
      · refine w_iload_n (q := 35) (i := 2) (j := 0) hc dX6_commonDivisor_34 rfl rfl rfl ?_
        exact w_ireturn (v := v2_1) hc hq dX6_commonDivisor_35 rfl rfl rfl
      · refine w_iload_n (q := 19) (i := 2) (j := 0) hc dX6_commonDivisor_18 rfl rfl rfl ?_
        refine w_iload_n (q := 20) (i := 3) (j := 1) hc dX6_commonDivisor_19 rfl rfl rfl ?_
        refine w_irem (q := 21) hc dX6_commonDivisor_20  rfl ?_
        refine w_istoreB (q := 23) (i := 5) (lv' := fun v5_4 => [(5, .int v5_4), (2, .int v2_1), (3, .int v3_2), (4, .int v4_3)]) hc dX6_commonDivisor_21 (hN 5 rfl) (fun _ => rfl) rfl (fun v5_4 => ?_)
        refine w_iload_n (q := 24) (i := 3) (j := 2) hc dX6_commonDivisor_23 rfl rfl rfl ?_
        refine w_istore_n (q := 25) (i := 2) (lv' := [(2, .int v3_2), (5, .int v5_4), (3, .int v3_2), (4, .int v4_3)]) hc dX6_commonDivisor_24 rfl (hN 2 rfl) rfl rfl ?_
        refine w_iload (q := 27) (i := 5) (j := 1) hc dX6_commonDivisor_25 rfl rfl ?_
        refine w_istore_n (q := 28) (i := 3) (lv' := [(3, .int v5_4), (2, .int v3_2), (5, .int v5_4), (4, .int v4_3)]) hc dX6_commonDivisor_27 rfl (hN 3 rfl) rfl rfl ?_
        refine w_iincB (q := 31) (i := 4) (j := 3) (lv' := fun v4_5 => [(4, .int v4_5), (3, .int v5_4), (2, .int v3_2), (5, .int v5_4)]) hc dX6_commonDivisor_28 rfl ci_1 (hN 4 rfl) (fun _ => rfl) rfl (fun v4_5 => ?_)
        refine w_goto (tgt := 7) hc dX6_commonDivisor_31 rfl ?_
        refine w_sub [2, 1, 0] rfl ?_
        exact ih v3_2 v5_4 v4_5
set_option maxRecDepth 100000 in
set_option maxHeartbeats 4000000 in
theorem m_X6_commonDivisor {l : Launch} {K : KT} {R : MR} {rm : Nat} {a0 : Int32} {a1 : Int32} {I : MI} {L : ML} (hK0 : K = lK rm) (hR0 : R = lR rm) : MFg l yX6_commonDivisor cX6_commonDivisor 6 (some .int) 0 0 [.int a0, .int a1] K R I L anI (meR I L) (f_X6_commonDivisor a0 a1) := by
  refine mf_of (plainFor_of_name (by decide)) (Nat.le_of_ble_eq_true rfl) ?_
  intro G hc _ hK1 hR1 hn hq
  have hK := hK1.trans hK0
  have hR := hR1.trans hR0
  have hN : ∀ i, Nat.blt i 6 = true → i < gnL G := fun i h => hn ▸ Nat.blt_eq.mp h
  unfold f_X6_commonDivisor
  show WW G 0 [(0, .int a0), (1, .int a1)] [] I L _
  refine w_iload_n (q := 1) (i := 0) (j := 0) hc dX6_commonDivisor_0 rfl rfl rfl ?_
  refine w_istore_n (q := 2) (i := 2) (lv' := [(2, .int a0), (0, .int a0), (1, .int a1)]) hc dX6_commonDivisor_1 rfl (hN 2 rfl) rfl rfl ?_
  refine w_iload_n (q := 3) (i := 1) (j := 2) hc dX6_commonDivisor_2 rfl rfl rfl ?_
  refine w_istore_n (q := 4) (i := 3) (lv' := [(3, .int a1), (2, .int a0), (0, .int a0), (1, .int a1)]) hc dX6_commonDivisor_3 rfl (hN 3 rfl) rfl rfl ?_
  refine w_iconst (q := 5) hc dX6_commonDivisor_4 ci_0 rfl ?_
  refine w_istore (q := 7) (i := 4) (lv' := [(4, .int 0), (3, .int a1), (2, .int a0), (0, .int a0), (1, .int a1)]) hc dX6_commonDivisor_5 (hN 4 rfl) rfl rfl ?_
  refine w_sub [2, 1, 0] rfl ?_
  exact wl_X6_commonDivisor_7 hc hq hK hR hn FU a0 a1 0
set_option maxRecDepth 100000 in
set_option maxHeartbeats 4000000 in
theorem wl_X6_period_4 {G : GT Int32} {rm : Nat} (v0_1 : Int64) {I : MI} {L : ML} (hc : Cx G cX6_period yX6_period.cls (some .int) 1 25) (hq : RetQ G anI (meR I L)) (hK : gK G = lK rm) (hR : gR G = lR rm) (hn : gnL G = 5) : ∀ (n : Nat) (v2_2 : Int32) (v3_3 : Int32), WW G 4 [(0, .long v0_1), (2, .int v2_2), (3, .int v3_3)] [] I L (f_X6_period_4 v0_1 n v2_2 v3_3) := by
  have hN : ∀ i, Nat.blt i 5 = true → i < gnL G := fun i h => hn ▸ Nat.blt_eq.mp h
  intro n
  induction n with
  | zero => intros; exact w_none _ _ _
  | succ n ih =>
    intros v2_2 v3_3
    rw [f_X6_period_4]
    refine w_iload_n (q := 5) (i := 3) (j := 2) hc dX6_period_4 rfl rfl rfl ?_
    refine w_bipush (q := 7) hc dX6_period_5 cb_10 rfl ?_
    refine w_icmpgt (q := 10) (tgt := 55) hc dX6_period_7 rfl rfl ?_ ?_
    · refine w_iload_n (q := 56) (i := 2) (j := 1) hc dX6_period_55 rfl rfl rfl ?_
      exact w_ireturn (v := v2_2) hc hq dX6_period_56 rfl rfl rfl
    · refine w_lload_n (q := 11) (i := 0) (j := 0) hc dX6_period_10 rfl rfl rfl ?_
      refine w_iconst (q := 12) hc dX6_period_11 ci_4 rfl ?_
      refine w_iload_n (q := 13) (i := 3) (j := 2) hc dX6_period_12 rfl rfl rfl ?_
      refine w_imul (q := 14) hc dX6_period_13  rfl ?_
      refine w_iconst (q := 15) hc dX6_period_14 ci_4 rfl ?_
      refine w_isub (q := 16) hc dX6_period_15  rfl ?_
      refine w_lushr (q := 17) hc dX6_period_16  rfl ?_
      refine w_ldc2 (q := 20) hc dX6_period_17 kl_X6_11 rfl ?_
      refine w_land (q := 21) hc dX6_period_20  rfl ?_
      refine w_lconst (q := 22) hc dX6_period_21 cl_0 rfl ?_
      refine w_lcmp (q := 23) hc dX6_period_22  rfl ?_
      refine w_ifeq (q := 26) (tgt := 49) hc dX6_period_23 rfl rfl ?_ ?_
      · refine w_iincB (q := 52) (i := 3) (j := 2) (lv' := fun v3_4 => [(3, .int v3_4), (0, .long v0_1), (2, .int v2_2)]) hc dX6_period_49 rfl ci_1 (hN 3 rfl) (fun _ => rfl) rfl (fun v3_4 => ?_)
        refine w_goto (tgt := 4) hc dX6_period_52 rfl ?_
        refine w_sub [1, 2, 0] rfl ?_
        exact ih v2_2 v3_4
      · refine w_iload_n (q := 27) (i := 2) (j := 1) hc dX6_period_26 rfl rfl rfl ?_
        refine w_iload_n (q := 28) (i := 3) (j := 2) hc dX6_period_27 rfl rfl rfl ?_
        refine w_callS_Ri (q := 31) (st := []) (args := [.int v2_2, .int v3_3]) hc (m_X6_commonDivisor hK hR) dX6_period_28 ml_X6_37 cf_X6_commonDivisor st_X6_commonDivisor rfl rfl (Nat.le_of_ble_eq_true rfl) ⟨Nat.le_of_ble_eq_true rfl, Nat.le_of_ble_eq_true rfl⟩ rfl (fun q_5 => ?_)
        refine w_istore (q := 33) (i := 4) (lv' := [(4, .int q_5), (0, .long v0_1), (2, .int v2_2), (3, .int v3_3)]) hc dX6_period_31 (hN 4 rfl) rfl rfl ?_
        refine w_iload_n (q := 34) (i := 2) (j := 2) hc dX6_period_33 rfl rfl rfl ?_
        refine w_iload (q := 36) (i := 4) (j := 0) hc dX6_period_34 rfl rfl ?_
        refine w_ifle (q := 39) (tgt := 46) hc dX6_period_36 rfl rfl ?_ ?_
        · refine w_iload_n (q := 47) (i := 3) (j := 3) hc dX6_period_46 rfl rfl rfl ?_
          refine w_imul (q := 48) hc dX6_period_47  rfl ?_
          refine w_istore_nB (q := 49) (i := 2) (lv' := fun v2_6 => [(2, .int v2_6), (4, .int q_5), (0, .long v0_1), (3, .int v3_3)]) hc dX6_period_48 rfl (hN 2 rfl) (fun _ => rfl) rfl (fun v2_6 => ?_)
          refine w_iincB (q := 52) (i := 3) (j := 3) (lv' := fun v3_7 => [(3, .int v3_7), (2, .int v2_6), (4, .int q_5), (0, .long v0_1)]) hc dX6_period_49 rfl ci_1 (hN 3 rfl) (fun _ => rfl) rfl (fun v3_7 => ?_)
          refine w_goto (tgt := 4) hc dX6_period_52 rfl ?_
          refine w_sub [3, 1, 0] rfl ?_
          exact ih v2_6 v3_7
        · refine w_iload_n (q := 40) (i := 3) (j := 3) hc dX6_period_39 rfl rfl rfl ?_
          refine w_iload (q := 42) (i := 4) (j := 0) hc dX6_period_40 rfl rfl ?_
          refine w_idiv (q := 43) hc dX6_period_42  rfl ?_
          refine w_goto (tgt := 47) hc dX6_period_43 rfl ?_
          refine w_imul (q := 48) hc dX6_period_47  rfl ?_
          refine w_istore_nB (q := 49) (i := 2) (lv' := fun v2_8 => [(2, .int v2_8), (4, .int q_5), (0, .long v0_1), (3, .int v3_3)]) hc dX6_period_48 rfl (hN 2 rfl) (fun _ => rfl) rfl (fun v2_8 => ?_)
          refine w_iincB (q := 52) (i := 3) (j := 3) (lv' := fun v3_9 => [(3, .int v3_9), (2, .int v2_8), (4, .int q_5), (0, .long v0_1)]) hc dX6_period_49 rfl ci_1 (hN 3 rfl) (fun _ => rfl) rfl (fun v3_9 => ?_)
          refine w_goto (tgt := 4) hc dX6_period_52 rfl ?_
          refine w_sub [3, 1, 0] rfl ?_
          exact ih v2_8 v3_9
set_option maxRecDepth 100000 in
set_option maxHeartbeats 4000000 in
theorem m_X6_period {l : Launch} {K : KT} {R : MR} {rm : Nat} {a0 : Int64} {I : MI} {L : ML} (hK0 : K = lK rm) (hR0 : R = lR rm) : MFg l yX6_period cX6_period 5 (some .int) 1 25 [.long a0] K R I L anI (meR I L) (f_X6_period a0) := by
  refine mf_of (plainFor_of_name (by decide)) (Nat.le_of_ble_eq_true rfl) ?_
  intro G hc _ hK1 hR1 hn hq
  have hK := hK1.trans hK0
  have hR := hR1.trans hR0
  have hN : ∀ i, Nat.blt i 5 = true → i < gnL G := fun i h => hn ▸ Nat.blt_eq.mp h
  unfold f_X6_period
  show WW G 0 [(0, .long a0)] [] I L _
  refine w_iconst (q := 1) hc dX6_period_0 ci_1 rfl ?_
  refine w_istore_n (q := 2) (i := 2) (lv' := [(2, .int 1), (0, .long a0)]) hc dX6_period_1 rfl (hN 2 rfl) rfl rfl ?_
  refine w_iconst (q := 3) hc dX6_period_2 ci_2 rfl ?_
  refine w_istore_n (q := 4) (i := 3) (lv' := [(3, .int 2), (2, .int 1), (0, .long a0)]) hc dX6_period_3 rfl (hN 3 rfl) rfl rfl ?_
  refine w_sub [2, 1, 0] rfl ?_
  exact wl_X6_period_4 a0 hc hq hK hR hn FU 1 2
set_option maxRecDepth 100000 in
set_option maxHeartbeats 4000000 in
theorem wl_X6_raise_6 {G : GT Int64} {rm : Nat} (v0_1 : Int64) (v2_2 : Int32) (v3_3 : Int32) {I : MI} {L : ML} (hc : Cx G cX6_raise yX6_raise.cls (some .long) 2 49) (hq : RetQ G anL (meR I L)) (hK : gK G = lK rm) (hR : gR G = lR rm) (hn : gnL G = 7) : ∀ (n : Nat) (v4_4 : Int64) (v6_5 : Int32), WW G 6 [(0, .long v0_1), (2, .int v2_2), (3, .int v3_3), (4, .long v4_4), (6, .int v6_5)] [] I L (f_X6_raise_6 v0_1 v2_2 v3_3 n v4_4 v6_5) := by
  have hN : ∀ i, Nat.blt i 7 = true → i < gnL G := fun i h => hn ▸ Nat.blt_eq.mp h
  intro n
  induction n with
  | zero => intros; exact w_none _ _ _
  | succ n ih =>
    intros v4_4 v6_5
    rw [f_X6_raise_6]
    refine w_iload (q := 8) (i := 6) (j := 4) hc dX6_raise_6 rfl rfl ?_
    refine w_iload_n (q := 9) (i := 3) (j := 2) hc dX6_raise_8 rfl rfl rfl ?_
    refine w_icmpge (q := 12) (tgt := 39) hc dX6_raise_9 rfl rfl ?_ ?_
    · refine w_lload (q := 41) (i := 4) (j := 3) hc dX6_raise_39 rfl rfl ?_
      exact w_lreturn hc hq dX6_raise_41 rfl rfl
    · refine w_lload (q := 14) (i := 4) (j := 3) hc dX6_raise_12 rfl rfl ?_
      refine w_lload_n (q := 15) (i := 0) (j := 0) hc dX6_raise_14 rfl rfl rfl ?_
      refine w_iload (q := 17) (i := 6) (j := 4) hc dX6_raise_15 rfl rfl ?_
      refine w_iload_n (q := 18) (i := 2) (j := 1) hc dX6_raise_17 rfl rfl rfl ?_
      refine w_callS_Ri (q := 21) (st := [.long v4_4]) (args := [.long v0_1, .int v6_5, .int v2_2]) hc (m_X6_imageOfPower hK hR) dX6_raise_18 ml_X6_33 cf_X6_imageOfPower st_X6_imageOfPower rfl rfl (Nat.le_of_ble_eq_true rfl) ⟨Nat.le_of_ble_eq_true rfl, Nat.le_of_ble_eq_true rfl⟩ rfl (fun q_6 => ?_)
      refine w_i2l (q := 22) hc dX6_raise_21  rfl ?_
      refine w_bipush (q := 24) hc dX6_raise_22 cb_36 rfl ?_
      refine w_iconst (q := 25) hc dX6_raise_24 ci_4 rfl ?_
      refine w_iload (q := 27) (i := 6) (j := 4) hc dX6_raise_25 rfl rfl ?_
      refine w_imul (q := 28) hc dX6_raise_27  rfl ?_
      refine w_isub (q := 29) hc dX6_raise_28  rfl ?_
      refine w_lshl (q := 30) hc dX6_raise_29  rfl ?_
      refine w_lor (q := 31) hc dX6_raise_30  rfl ?_
      refine w_lstoreB (q := 33) (i := 4) (lv' := fun v4_7 => [(4, .long v4_7), (0, .long v0_1), (2, .int v2_2), (3, .int v3_3), (6, .int v6_5)]) hc dX6_raise_31 (hN 5 rfl) (fun _ => rfl) rfl (fun v4_7 => ?_)
      refine w_iincB (q := 36) (i := 6) (j := 4) (lv' := fun v6_8 => [(6, .int v6_8), (4, .long v4_7), (0, .long v0_1), (2, .int v2_2), (3, .int v3_3)]) hc dX6_raise_33 rfl ci_1 (hN 6 rfl) (fun _ => rfl) rfl (fun v6_8 => ?_)
      refine w_goto (tgt := 6) hc dX6_raise_36 rfl ?_
      refine w_sub [2, 3, 4, 1, 0] rfl ?_
      exact ih v4_7 v6_8
set_option maxRecDepth 100000 in
set_option maxHeartbeats 4000000 in
theorem m_X6_raise {l : Launch} {K : KT} {R : MR} {rm : Nat} {a0 : Int64} {a2 : Int32} {a3 : Int32} {I : MI} {L : ML} (hK0 : K = lK rm) (hR0 : R = lR rm) : MFg l yX6_raise cX6_raise 7 (some .long) 2 49 [.long a0, .int a2, .int a3] K R I L anL (meR I L) (f_X6_raise a0 a2 a3) := by
  refine mf_of (plainFor_of_name (by decide)) (Nat.le_of_ble_eq_true rfl) ?_
  intro G hc _ hK1 hR1 hn hq
  have hK := hK1.trans hK0
  have hR := hR1.trans hR0
  have hN : ∀ i, Nat.blt i 7 = true → i < gnL G := fun i h => hn ▸ Nat.blt_eq.mp h
  unfold f_X6_raise
  show WW G 0 [(0, .long a0), (2, .int a2), (3, .int a3)] [] I L _
  refine w_lconst (q := 1) hc dX6_raise_0 cl_0 rfl ?_
  refine w_lstore (q := 3) (i := 4) (lv' := [(4, .long 0), (0, .long a0), (2, .int a2), (3, .int a3)]) hc dX6_raise_1 (hN 5 rfl) rfl rfl ?_
  refine w_iconst (q := 4) hc dX6_raise_3 ci_0 rfl ?_
  refine w_istore (q := 6) (i := 6) (lv' := [(6, .int 0), (4, .long 0), (0, .long a0), (2, .int a2), (3, .int a3)]) hc dX6_raise_4 (hN 6 rfl) rfl rfl ?_
  refine w_sub [2, 3, 4, 1, 0] rfl ?_
  exact wl_X6_raise_6 a0 a2 a3 hc hq hK hR hn FU 0 0
set_option maxRecDepth 100000 in
set_option maxHeartbeats 4000000 in
theorem wl_X6_moved_5 {G : GT Int32} {rm : Nat} (v0_1 : Int64) (v2_2 : Int32) {I : MI} {L : ML} (hc : Cx G cX6_moved yX6_moved.cls (some .int) 1 22) (hq : RetQ G anI (meR I L)) (hK : gK G = lK rm) (hR : gR G = lR rm) (hn : gnL G = 5) : ∀ (n : Nat) (v3_3 : Int32) (v4_4 : Int32), WW G 5 [(0, .long v0_1), (2, .int v2_2), (3, .int v3_3), (4, .int v4_4)] [] I L (f_X6_moved_5 v0_1 v2_2 n v3_3 v4_4) := by
  have hN : ∀ i, Nat.blt i 5 = true → i < gnL G := fun i h => hn ▸ Nat.blt_eq.mp h
  intro n
  induction n with
  | zero => intros; exact w_none _ _ _
  | succ n ih =>
    intros v3_3 v4_4
    rw [f_X6_moved_5]
    refine w_iload (q := 7) (i := 4) (j := 3) hc dX6_moved_5 rfl rfl ?_
    refine w_iload_n (q := 8) (i := 2) (j := 1) hc dX6_moved_7 rfl rfl rfl ?_
    refine w_icmpge (q := 11) (tgt := 35) hc dX6_moved_8 rfl rfl ?_ ?_
    · refine w_iload_n (q := 36) (i := 3) (j := 2) hc dX6_moved_35 rfl rfl rfl ?_
      exact w_ireturn (v := v3_3) hc hq dX6_moved_36 rfl rfl rfl
    · refine w_lload_n (q := 12) (i := 0) (j := 0) hc dX6_moved_11 rfl rfl rfl ?_
      refine w_iload (q := 14) (i := 4) (j := 3) hc dX6_moved_12 rfl rfl ?_
      refine w_callS_Ri (q := 17) (st := []) (args := [.long v0_1, .int v4_4]) hc (m_X6_image hK hR) dX6_moved_14 ml_X6_15 cf_X6_image st_X6_image rfl rfl (Nat.le_of_ble_eq_true rfl) ⟨Nat.le_of_ble_eq_true rfl, Nat.le_of_ble_eq_true rfl⟩ rfl (fun q_5 => ?_)
      refine w_iload (q := 19) (i := 4) (j := 3) hc dX6_moved_17 rfl rfl ?_
      refine w_icmpeq (q := 22) (tgt := 29) hc dX6_moved_19 rfl rfl ?_ ?_
      · refine w_iincB (q := 32) (i := 4) (j := 3) (lv' := fun v4_6 => [(4, .int v4_6), (0, .long v0_1), (2, .int v2_2), (3, .int v3_3)]) hc dX6_moved_29 rfl ci_1 (hN 4 rfl) (fun _ => rfl) rfl (fun v4_6 => ?_)
        refine w_goto (tgt := 5) hc dX6_moved_32 rfl ?_
        refine w_sub [1, 2, 3, 0] rfl ?_
        exact ih v3_3 v4_6
      · refine w_iload_n (q := 23) (i := 3) (j := 2) hc dX6_moved_22 rfl rfl rfl ?_
        refine w_iconst (q := 24) hc dX6_moved_23 ci_1 rfl ?_
        refine w_iload (q := 26) (i := 4) (j := 3) hc dX6_moved_24 rfl rfl ?_
        refine w_ishl (q := 27) hc dX6_moved_26  rfl ?_
        refine w_ior (q := 28) hc dX6_moved_27  rfl ?_
        refine w_istore_nB (q := 29) (i := 3) (lv' := fun v3_7 => [(3, .int v3_7), (0, .long v0_1), (2, .int v2_2), (4, .int v4_4)]) hc dX6_moved_28 rfl (hN 3 rfl) (fun _ => rfl) rfl (fun v3_7 => ?_)
        refine w_iincB (q := 32) (i := 4) (j := 3) (lv' := fun v4_8 => [(4, .int v4_8), (3, .int v3_7), (0, .long v0_1), (2, .int v2_2)]) hc dX6_moved_29 rfl ci_1 (hN 4 rfl) (fun _ => rfl) rfl (fun v4_8 => ?_)
        refine w_goto (tgt := 5) hc dX6_moved_32 rfl ?_
        refine w_sub [2, 3, 1, 0] rfl ?_
        exact ih v3_7 v4_8
set_option maxRecDepth 100000 in
set_option maxHeartbeats 4000000 in
theorem m_X6_moved {l : Launch} {K : KT} {R : MR} {rm : Nat} {a0 : Int64} {a2 : Int32} {I : MI} {L : ML} (hK0 : K = lK rm) (hR0 : R = lR rm) : MFg l yX6_moved cX6_moved 5 (some .int) 1 22 [.long a0, .int a2] K R I L anI (meR I L) (f_X6_moved a0 a2) := by
  refine mf_of (plainFor_of_name (by decide)) (Nat.le_of_ble_eq_true rfl) ?_
  intro G hc _ hK1 hR1 hn hq
  have hK := hK1.trans hK0
  have hR := hR1.trans hR0
  have hN : ∀ i, Nat.blt i 5 = true → i < gnL G := fun i h => hn ▸ Nat.blt_eq.mp h
  unfold f_X6_moved
  show WW G 0 [(0, .long a0), (2, .int a2)] [] I L _
  refine w_iconst (q := 1) hc dX6_moved_0 ci_0 rfl ?_
  refine w_istore_n (q := 2) (i := 3) (lv' := [(3, .int 0), (0, .long a0), (2, .int a2)]) hc dX6_moved_1 rfl (hN 3 rfl) rfl rfl ?_
  refine w_iconst (q := 3) hc dX6_moved_2 ci_0 rfl ?_
  refine w_istore (q := 5) (i := 4) (lv' := [(4, .int 0), (3, .int 0), (0, .long a0), (2, .int a2)]) hc dX6_moved_3 (hN 4 rfl) rfl rfl ?_
  refine w_sub [2, 3, 1, 0] rfl ?_
  exact wl_X6_moved_5 a0 a2 hc hq hK hR hn FU 0 0
set_option maxRecDepth 100000 in
set_option maxHeartbeats 4000000 in
theorem wl_X6_fromNumber_27 {G : GT Int64} {rm : Nat} (v2_2 : Int32) {I : MI} {L : ML} (hc : Cx G cX6_fromNumber yX6_fromNumber.cls (some .long) 0 0) (hq : RetQ G anL (meR I L)) (hK : gK G = lK rm) (hR : gR G = lR rm) (hn : gnL G = 10) (k0 : Int64 → Int64 → Option Int64) (hk0 : ∀ (v3_12 : Int64) (v5_13 : Int64), WW G 98 [(3, .long v3_12), (5, .long v5_13)] [] I L (k0 v3_12 v5_13)) : ∀ (n : Nat) (v3_3 : Int64) (v5_4 : Int64) (v7_5 : Int32) (v8_6 : Int32), WW G 27 [(2, .int v2_2), (3, .long v3_3), (5, .long v5_4), (7, .int v7_5), (8, .int v8_6)] [] I L (f_X6_fromNumber_27 v2_2 k0 n v3_3 v5_4 v7_5 v8_6) := by
  have hN : ∀ i, Nat.blt i 10 = true → i < gnL G := fun i h => hn ▸ Nat.blt_eq.mp h
  intro n
  induction n with
  | zero => intros; exact w_none _ _ _
  | succ n ih =>
    intros v3_3 v5_4 v7_5 v8_6
    rw [f_X6_fromNumber_27]
    refine w_iload (q := 29) (i := 8) (j := 4) hc dX6_fromNumber_27 rfl rfl ?_
    refine w_iflt (q := 32) (tgt := 98) hc dX6_fromNumber_29 rfl rfl ?_ ?_
    · refine w_sub [1, 2] rfl ?_
      exact hk0 v3_3 v5_4
    · refine w_lload (q := 34) (i := 5) (j := 2) hc dX6_fromNumber_32 rfl rfl ?_
      refine w_ldc2 (q := 37) hc dX6_fromNumber_34 kl_X6_47 rfl ?_
      refine w_lrem (q := 38) hc dX6_fromNumber_37  rfl ?_
      refine w_l2i (q := 39) hc dX6_fromNumber_38  rfl ?_
      refine w_istoreB (q := 41) (i := 9) (lv' := fun v9_7 => [(9, .int v9_7), (2, .int v2_2), (3, .long v3_3), (5, .long v5_4), (7, .int v7_5), (8, .int v8_6)]) hc dX6_fromNumber_39 (hN 9 rfl) (fun _ => rfl) rfl (fun v9_7 => ?_)
      refine w_lload (q := 43) (i := 5) (j := 3) hc dX6_fromNumber_41 rfl rfl ?_
      refine w_ldc2 (q := 46) hc dX6_fromNumber_43 kl_X6_47 rfl ?_
      refine w_ldiv (q := 47) hc dX6_fromNumber_46  rfl ?_
      refine w_lstoreB (q := 49) (i := 5) (lv' := fun v5_8 => [(5, .long v5_8), (9, .int v9_7), (2, .int v2_2), (3, .long v3_3), (7, .int v7_5), (8, .int v8_6)]) hc dX6_fromNumber_47 (hN 6 rfl) (fun _ => rfl) rfl (fun v5_8 => ?_)
      refine w_iload (q := 51) (i := 9) (j := 1) hc dX6_fromNumber_49 rfl rfl ?_
      refine w_iload_n (q := 52) (i := 2) (j := 2) hc dX6_fromNumber_51 rfl rfl rfl ?_
      refine w_icmpge (q := 55) (tgt := 65) hc dX6_fromNumber_52 rfl rfl ?_ ?_
      · refine w_ldc2 (q := 68) hc dX6_fromNumber_65 kl_X6_13 rfl ?_
        exact w_lreturn hc hq dX6_fromNumber_68 rfl rfl
      · refine w_iload (q := 57) (i := 7) (j := 4) hc dX6_fromNumber_55 rfl rfl ?_
        refine w_iload (q := 59) (i := 9) (j := 1) hc dX6_fromNumber_57 rfl rfl ?_
        refine w_ishr (q := 60) hc dX6_fromNumber_59  rfl ?_
        refine w_iconst (q := 61) hc dX6_fromNumber_60 ci_1 rfl ?_
        refine w_iand (q := 62) hc dX6_fromNumber_61  rfl ?_
        refine w_ifeq (q := 65) (tgt := 69) hc dX6_fromNumber_62 rfl rfl ?_ ?_
        · refine w_iload (q := 71) (i := 7) (j := 4) hc dX6_fromNumber_69 rfl rfl ?_
          refine w_iconst (q := 72) hc dX6_fromNumber_71 ci_1 rfl ?_
          refine w_iload (q := 74) (i := 9) (j := 1) hc dX6_fromNumber_72 rfl rfl ?_
          refine w_ishl (q := 75) hc dX6_fromNumber_74  rfl ?_
          refine w_ior (q := 76) hc dX6_fromNumber_75  rfl ?_
          refine w_istoreB (q := 78) (i := 7) (lv' := fun v7_9 => [(7, .int v7_9), (5, .long v5_8), (9, .int v9_7), (2, .int v2_2), (3, .long v3_3), (8, .int v8_6)]) hc dX6_fromNumber_76 (hN 7 rfl) (fun _ => rfl) rfl (fun v7_9 => ?_)
          refine w_lload_n (q := 79) (i := 3) (j := 4) hc dX6_fromNumber_78 rfl rfl rfl ?_
          refine w_iload (q := 81) (i := 9) (j := 2) hc dX6_fromNumber_79 rfl rfl ?_
          refine w_i2l (q := 82) hc dX6_fromNumber_81  rfl ?_
          refine w_bipush (q := 84) hc dX6_fromNumber_82 cb_36 rfl ?_
          refine w_iconst (q := 85) hc dX6_fromNumber_84 ci_4 rfl ?_
          refine w_iload (q := 87) (i := 8) (j := 5) hc dX6_fromNumber_85 rfl rfl ?_
          refine w_imul (q := 88) hc dX6_fromNumber_87  rfl ?_
          refine w_isub (q := 89) hc dX6_fromNumber_88  rfl ?_
          refine w_lshl (q := 90) hc dX6_fromNumber_89  rfl ?_
          refine w_lor (q := 91) hc dX6_fromNumber_90  rfl ?_
          refine w_lstore_nB (q := 92) (i := 3) (lv' := fun v3_10 => [(3, .long v3_10), (7, .int v7_9), (5, .long v5_8), (9, .int v9_7), (2, .int v2_2), (8, .int v8_6)]) hc dX6_fromNumber_91 rfl (hN 4 rfl) (fun _ => rfl) rfl (fun v3_10 => ?_)
          refine w_iincB (q := 95) (i := 8) (j := 5) (lv' := fun v8_11 => [(8, .int v8_11), (3, .long v3_10), (7, .int v7_9), (5, .long v5_8), (9, .int v9_7), (2, .int v2_2)]) hc dX6_fromNumber_92 rfl ci_m1 (hN 8 rfl) (fun _ => rfl) rfl (fun v8_11 => ?_)
          refine w_goto (tgt := 27) hc dX6_fromNumber_95 rfl ?_
          refine w_sub [5, 1, 3, 2, 0] rfl ?_
          exact ih v3_10 v5_8 v7_9 v8_11
        · refine w_ldc2 (q := 68) hc dX6_fromNumber_65 kl_X6_13 rfl ?_
          exact w_lreturn hc hq dX6_fromNumber_68 rfl rfl
set_option maxRecDepth 100000 in
set_option maxHeartbeats 4000000 in
theorem m_X6_fromNumber {l : Launch} {K : KT} {R : MR} {rm : Nat} {a0 : Int64} {a2 : Int32} {I : MI} {L : ML} (hK0 : K = lK rm) (hR0 : R = lR rm) : MFg l yX6_fromNumber cX6_fromNumber 10 (some .long) 0 0 [.long a0, .int a2] K R I L anL (meR I L) (f_X6_fromNumber a0 a2) := by
  refine mf_of (plainFor_of_name (by decide)) (Nat.le_of_ble_eq_true rfl) ?_
  intro G hc _ hK1 hR1 hn hq
  have hK := hK1.trans hK0
  have hR := hR1.trans hR0
  have hN : ∀ i, Nat.blt i 10 = true → i < gnL G := fun i h => hn ▸ Nat.blt_eq.mp h
  unfold f_X6_fromNumber
  show WW G 0 [(0, .long a0), (2, .int a2)] [] I L _
  refine w_lload_n (q := 1) (i := 0) (j := 0) hc dX6_fromNumber_0 rfl rfl rfl ?_
  refine w_lconst (q := 2) hc dX6_fromNumber_1 cl_0 rfl ?_
  refine w_lcmp (q := 3) hc dX6_fromNumber_2  rfl ?_
  refine w_iflt (q := 6) (tgt := 10) hc dX6_fromNumber_3 rfl rfl ?_ ?_
  · refine w_ldc2 (q := 13) hc dX6_fromNumber_10 kl_X6_13 rfl ?_
    exact w_lreturn hc hq dX6_fromNumber_13 rfl rfl
  · refine w_iload_n (q := 7) (i := 2) (j := 1) hc dX6_fromNumber_6 rfl rfl rfl ?_
    refine w_ifne (q := 10) (tgt := 14) hc dX6_fromNumber_7 rfl rfl ?_ ?_
    · refine w_ldc2 (q := 13) hc dX6_fromNumber_10 kl_X6_13 rfl ?_
      exact w_lreturn hc hq dX6_fromNumber_13 rfl rfl
    · refine w_lconst (q := 15) hc dX6_fromNumber_14 cl_0 rfl ?_
      refine w_lstore_n (q := 16) (i := 3) (lv' := [(3, .long 0), (0, .long a0), (2, .int a2)]) hc dX6_fromNumber_15 rfl (hN 4 rfl) rfl rfl ?_
      refine w_lload_n (q := 17) (i := 0) (j := 1) hc dX6_fromNumber_16 rfl rfl rfl ?_
      refine w_lstore (q := 19) (i := 5) (lv' := [(5, .long a0), (3, .long 0), (0, .long a0), (2, .int a2)]) hc dX6_fromNumber_17 (hN 6 rfl) rfl rfl ?_
      refine w_iconst (q := 20) hc dX6_fromNumber_19 ci_0 rfl ?_
      refine w_istore (q := 22) (i := 7) (lv' := [(7, .int 0), (5, .long a0), (3, .long 0), (0, .long a0), (2, .int a2)]) hc dX6_fromNumber_20 (hN 7 rfl) rfl rfl ?_
      refine w_iload_n (q := 23) (i := 2) (j := 4) hc dX6_fromNumber_22 rfl rfl rfl ?_
      refine w_iconst (q := 24) hc dX6_fromNumber_23 ci_1 rfl ?_
      refine w_isub (q := 25) hc dX6_fromNumber_24  rfl ?_
      refine w_istoreB (q := 27) (i := 8) (lv' := fun v8_1 => [(8, .int v8_1), (7, .int 0), (5, .long a0), (3, .long 0), (0, .long a0), (2, .int a2)]) hc dX6_fromNumber_25 (hN 8 rfl) (fun _ => rfl) rfl (fun v8_1 => ?_)
      refine w_sub [5, 3, 2, 1, 0] rfl ?_
      refine wl_X6_fromNumber_27 a2 hc hq hK hR hn _ ?_ FU 0 a0 0 v8_1
      intro v3_12 v5_13
      refine w_lload (q := 100) (i := 5) (j := 1) hc dX6_fromNumber_98 rfl rfl ?_
      refine w_lconst (q := 101) hc dX6_fromNumber_100 cl_0 rfl ?_
      refine w_lcmp (q := 102) hc dX6_fromNumber_101  rfl ?_
      refine w_ifne (q := 105) (tgt := 109) hc dX6_fromNumber_102 rfl rfl ?_ ?_
      · refine w_lload_n (q := 106) (i := 3) (j := 0) hc dX6_fromNumber_105 rfl rfl rfl ?_
        refine w_goto (tgt := 112) hc dX6_fromNumber_106 rfl ?_
        exact w_lreturn hc hq dX6_fromNumber_112 rfl rfl
      · refine w_ldc2 (q := 112) hc dX6_fromNumber_109 kl_X6_13 rfl ?_
        exact w_lreturn hc hq dX6_fromNumber_112 rfl rfl
set_option maxRecDepth 100000 in
set_option maxHeartbeats 4000000 in
theorem wl_X6_toNumber_5 {G : GT Int64} {rm : Nat} (v0_1 : Int64) (v2_2 : Int32) {I : MI} {L : ML} (hc : Cx G cX6_toNumber yX6_toNumber.cls (some .long) 1 22) (hq : RetQ G anL (meR I L)) (hK : gK G = lK rm) (hR : gR G = lR rm) (hn : gnL G = 6) : ∀ (n : Nat) (v3_3 : Int64) (v5_4 : Int32), WW G 5 [(0, .long v0_1), (2, .int v2_2), (3, .long v3_3), (5, .int v5_4)] [] I L (f_X6_toNumber_5 v0_1 v2_2 n v3_3 v5_4) := by
  have hN : ∀ i, Nat.blt i 6 = true → i < gnL G := fun i h => hn ▸ Nat.blt_eq.mp h
  intro n
  induction n with
  | zero => intros; exact w_none _ _ _
  | succ n ih =>
    intros v3_3 v5_4
    rw [f_X6_toNumber_5]
    refine w_iload (q := 7) (i := 5) (j := 3) hc dX6_toNumber_5 rfl rfl ?_
    refine w_iload_n (q := 8) (i := 2) (j := 1) hc dX6_toNumber_7 rfl rfl rfl ?_
    refine w_icmpge (q := 11) (tgt := 31) hc dX6_toNumber_8 rfl rfl ?_ ?_
    · refine w_lload_n (q := 32) (i := 3) (j := 2) hc dX6_toNumber_31 rfl rfl rfl ?_
      exact w_lreturn hc hq dX6_toNumber_32 rfl rfl
    · refine w_lload_n (q := 12) (i := 3) (j := 2) hc dX6_toNumber_11 rfl rfl rfl ?_
      refine w_ldc2 (q := 15) hc dX6_toNumber_12 kl_X6_47 rfl ?_
      refine w_lmul (q := 16) hc dX6_toNumber_15  rfl ?_
      refine w_lload_n (q := 17) (i := 0) (j := 0) hc dX6_toNumber_16 rfl rfl rfl ?_
      refine w_iload (q := 19) (i := 5) (j := 3) hc dX6_toNumber_17 rfl rfl ?_
      refine w_callS_Ri (q := 22) (st := [.long (v3_3 * 10)]) (args := [.long v0_1, .int v5_4]) hc (m_X6_image hK hR) dX6_toNumber_19 ml_X6_15 cf_X6_image st_X6_image rfl rfl (Nat.le_of_ble_eq_true rfl) ⟨Nat.le_of_ble_eq_true rfl, Nat.le_of_ble_eq_true rfl⟩ rfl (fun q_5 => ?_)
      refine w_i2l (q := 23) hc dX6_toNumber_22  rfl ?_
      refine w_ladd (q := 24) hc dX6_toNumber_23  rfl ?_
      refine w_lstore_nB (q := 25) (i := 3) (lv' := fun v3_6 => [(3, .long v3_6), (0, .long v0_1), (2, .int v2_2), (5, .int v5_4)]) hc dX6_toNumber_24 rfl (hN 4 rfl) (fun _ => rfl) rfl (fun v3_6 => ?_)
      refine w_iincB (q := 28) (i := 5) (j := 3) (lv' := fun v5_7 => [(5, .int v5_7), (3, .long v3_6), (0, .long v0_1), (2, .int v2_2)]) hc dX6_toNumber_25 rfl ci_1 (hN 5 rfl) (fun _ => rfl) rfl (fun v5_7 => ?_)
      refine w_goto (tgt := 5) hc dX6_toNumber_28 rfl ?_
      refine w_sub [2, 3, 1, 0] rfl ?_
      exact ih v3_6 v5_7
set_option maxRecDepth 100000 in
set_option maxHeartbeats 4000000 in
theorem m_X6_toNumber {l : Launch} {K : KT} {R : MR} {rm : Nat} {a0 : Int64} {a2 : Int32} {I : MI} {L : ML} (hK0 : K = lK rm) (hR0 : R = lR rm) : MFg l yX6_toNumber cX6_toNumber 6 (some .long) 1 22 [.long a0, .int a2] K R I L anL (meR I L) (f_X6_toNumber a0 a2) := by
  refine mf_of (plainFor_of_name (by decide)) (Nat.le_of_ble_eq_true rfl) ?_
  intro G hc _ hK1 hR1 hn hq
  have hK := hK1.trans hK0
  have hR := hR1.trans hR0
  have hN : ∀ i, Nat.blt i 6 = true → i < gnL G := fun i h => hn ▸ Nat.blt_eq.mp h
  unfold f_X6_toNumber
  show WW G 0 [(0, .long a0), (2, .int a2)] [] I L _
  refine w_lconst (q := 1) hc dX6_toNumber_0 cl_0 rfl ?_
  refine w_lstore_n (q := 2) (i := 3) (lv' := [(3, .long 0), (0, .long a0), (2, .int a2)]) hc dX6_toNumber_1 rfl (hN 4 rfl) rfl rfl ?_
  refine w_iconst (q := 3) hc dX6_toNumber_2 ci_0 rfl ?_
  refine w_istore (q := 5) (i := 5) (lv' := [(5, .int 0), (3, .long 0), (0, .long a0), (2, .int a2)]) hc dX6_toNumber_3 (hN 5 rfl) rfl rfl ?_
  refine w_sub [2, 3, 1, 0] rfl ?_
  exact wl_X6_toNumber_5 a0 a2 hc hq hK hR hn FU 0 0
