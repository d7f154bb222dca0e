set_option maxRecDepth 100000 in
set_option maxHeartbeats 4000000 in
theorem wl_X8_isHome_2 {G : GT Mm} {rm : Nat} (a0 : Nat) (L : ML) (hc : Cx G cX8_isHome yX8_isHome.cls none 0 0) (hq : RetQ G anV meV) (hK : gK G = lK rm) (hR : gR G = lR rm) (hn : gnL G = 2) (ha0 : (lK rm)[a0]? = some (10, 10)) : ∀ (n : Nat) (v1_1 : Int32) (I_2 : MI), WW G 2 [(0, .ref a0), (1, .int v1_1)] [] I_2 L (f_X8_isHome_2 a0 L n v1_1 I_2) := by
  have hN : ∀ i, Nat.blt i 2 = true → i < gnL G := fun i h => hn ▸ Nat.blt_eq.mp h
  intro n
  induction n with
  | zero => intros; exact w_none _ _ _
  | succ n ih =>
    intros v1_1 I_2
    rw [f_X8_isHome_2]
    refine w_iload_n (q := 3) (i := 1) (j := 1) hc dX8_isHome_2 rfl rfl rfl ?_
    refine w_bipush (q := 5) hc dX8_isHome_3 cb_10 rfl ?_
    refine w_icmpge (q := 8) (tgt := 18) hc dX8_isHome_5 rfl rfl ?_ ?_
    · exact w_return hc hq dX8_isHome_18 rfl rfl
    · refine w_aload_n (q := 9) (i := 0) (j := 0) hc dX8_isHome_8 rfl rfl rfl ?_
      refine w_iload_n (q := 10) (i := 1) (j := 1) hc dX8_isHome_9 rfl rfl rfl ?_
      refine w_iload_n (q := 11) (i := 1) (j := 1) hc dX8_isHome_10 rfl rfl rfl ?_
      refine w_iast (q := 12) hc dX8_isHome_11 (kA hK ha0) rfl (fun I_3 => ?_)
      refine w_iincB (q := 15) (i := 1) (j := 1) (lv' := fun v1_4 => [(1, .int v1_4), (0, .ref a0)]) hc dX8_isHome_12 rfl ci_1 (hN 1 rfl) (fun _ => rfl) rfl (fun v1_4 => ?_)
      refine w_goto (tgt := 2) hc dX8_isHome_15 rfl ?_
      refine w_sub [1, 0] rfl ?_
      exact ih v1_4 I_3
set_option maxRecDepth 100000 in
set_option maxHeartbeats 4000000 in
theorem m_X8_isHome {l : Launch} {K : KT} {R : MR} {rm : Nat} {a0 : Nat} {I : MI} {L : ML} (hK0 : K = lK rm) (hR0 : R = lR rm) (ha0 : (lK rm)[a0]? = some (10, 10)) : MFg l yX8_isHome cX8_isHome 2 none 0 0 [.ref a0] K R I L anV meV (f_X8_isHome a0 I L) := by
  refine mf_of (plainFor_of_name (by decide)) (Nat.le_of_ble_eq_true rfl) ?_
  intro G hc _ hK1 hR1 hn hq
  have hK := hK1.trans hK0
  have hR := hR1.trans hR0
  have hN : ∀ i, Nat.blt i 2 = true → i < gnL G := fun i h => hn ▸ Nat.blt_eq.mp h
  unfold f_X8_isHome
  show WW G 0 [(0, .ref a0)] [] I L _
  refine w_iconst (q := 1) hc dX8_isHome_0 ci_0 rfl ?_
  refine w_istore_n (q := 2) (i := 1) (lv' := [(1, .int 0), (0, .ref a0)]) hc dX8_isHome_1 rfl (hN 1 rfl) rfl rfl ?_
  refine w_sub [1, 0] rfl ?_
  exact wl_X8_isHome_2 a0 L hc hq hK hR hn ha0 FU 0 I
set_option maxRecDepth 100000 in
set_option maxHeartbeats 4000000 in
theorem wl_X8_copies_3 {G : GT Mm} {rm : Nat} (a0 : Nat) (a0n : Nat) (a2 : Nat) (a2n : Nat) (v1_1 : Int32) (v3_2 : Int32) (L : ML) (hc : Cx G cX8_copies yX8_copies.cls none 0 0) (hq : RetQ G anV meV) (hK : gK G = lK rm) (hR : gR G = lR rm) (hn : gnL G = 5) (ha0 : (lK rm)[a0]? = some (10, a0n)) (ha2 : (lK rm)[a2]? = some (10, a2n)) : ∀ (n : Nat) (v4_3 : Int32) (I_4 : MI), WW G 3 [(0, .ref a0), (1, .int v1_1), (2, .ref a2), (3, .int v3_2), (4, .int v4_3)] [] I_4 L (f_X8_copies_3 a0 a0n a2 a2n v1_1 v3_2 L n v4_3 I_4) := by
  have hN : ∀ i, Nat.blt i 5 = true → i < gnL G := fun i h => hn ▸ Nat.blt_eq.mp h
  intro n
  induction n with
  | zero => intros; exact w_none _ _ _
  | succ n ih =>
    intros v4_3 I_4
    rw [f_X8_copies_3]
    refine w_iload (q := 5) (i := 4) (j := 4) hc dX8_copies_3 rfl rfl ?_
    refine w_bipush (q := 7) hc dX8_copies_5 cb_10 rfl ?_
    refine w_icmpge (q := 10) (tgt := 28) hc dX8_copies_7 rfl rfl ?_ ?_
    · exact w_return hc hq dX8_copies_28 rfl rfl
    · refine w_aload_n (q := 11) (i := 2) (j := 2) hc dX8_copies_10 rfl rfl rfl ?_
      refine w_iload_n (q := 12) (i := 3) (j := 3) hc dX8_copies_11 rfl rfl rfl ?_
      refine w_iload (q := 14) (i := 4) (j := 4) hc dX8_copies_12 rfl rfl ?_
      refine w_iadd (q := 15) hc dX8_copies_14  rfl ?_
      refine w_aload_n (q := 16) (i := 0) (j := 0) hc dX8_copies_15 rfl rfl rfl ?_
      refine w_iload_n (q := 17) (i := 1) (j := 1) hc dX8_copies_16 rfl rfl rfl ?_
      refine w_iload (q := 19) (i := 4) (j := 4) hc dX8_copies_17 rfl rfl ?_
      refine w_iadd (q := 20) hc dX8_copies_19  rfl ?_
      refine w_iald (q := 21) hc dX8_copies_20 (kA hK ha0) rfl ?_
      refine w_iast (q := 22) hc dX8_copies_21 (kA hK ha2) rfl (fun I_5 => ?_)
      refine w_iincB (q := 25) (i := 4) (j := 4) (lv' := fun v4_6 => [(4, .int v4_6), (0, .ref a0), (1, .int v1_1), (2, .ref a2), (3, .int v3_2)]) hc dX8_copies_22 rfl ci_1 (hN 4 rfl) (fun _ => rfl) rfl (fun v4_6 => ?_)
      refine w_goto (tgt := 3) hc dX8_copies_25 rfl ?_
      refine w_sub [1, 2, 3, 4, 0] rfl ?_
      exact ih v4_6 I_5
set_option maxRecDepth 100000 in
set_option maxHeartbeats 4000000 in
theorem m_X8_copies {l : Launch} {K : KT} {R : MR} {rm : Nat} {a0 : Nat} {a0n : Nat} {a1 : Int32} {a2 : Nat} {a2n : Nat} {a3 : Int32} {I : MI} {L : ML} (hK0 : K = lK rm) (hR0 : R = lR rm) (ha0 : (lK rm)[a0]? = some (10, a0n)) (ha2 : (lK rm)[a2]? = some (10, a2n)) : MFg l yX8_copies cX8_copies 5 none 0 0 [.ref a0, .int a1, .ref a2, .int a3] K R I L anV meV (f_X8_copies a0 a0n a1 a2 a2n a3 I L) := by
  refine mf_of (plainFor_of_name (by decide)) (Nat.le_of_ble_eq_true rfl) ?_
  intro G hc _ hK1 hR1 hn hq
  have hK := hK1.trans hK0
  have hR := hR1.trans hR0
  have hN : ∀ i, Nat.blt i 5 = true → i < gnL G := fun i h => hn ▸ Nat.blt_eq.mp h
  unfold f_X8_copies
  show WW G 0 [(0, .ref a0), (1, .int a1), (2, .ref a2), (3, .int a3)] [] I L _
  refine w_iconst (q := 1) hc dX8_copies_0 ci_0 rfl ?_
  refine w_istore (q := 3) (i := 4) (lv' := [(4, .int 0), (0, .ref a0), (1, .int a1), (2, .ref a2), (3, .int a3)]) hc dX8_copies_1 (hN 4 rfl) rfl rfl ?_
  refine w_sub [1, 2, 3, 4, 0] rfl ?_
  exact wl_X8_copies_3 a0 a0n a2 a2n a1 a3 L hc hq hK hR hn ha0 ha2 FU 0 I
set_option maxRecDepth 100000 in
set_option maxHeartbeats 4000000 in
theorem m_X8_status {l : Launch} {K : KT} {R : MR} {rm : Nat} {I : MI} {L : ML} (hK0 : K = lK rm) (hR0 : R = lR rm) : MFg l yX8_status cX8_status 1 (some .int) 0 0 [.ref 43] K R I L anIW meW (f_X8_status I L) := by
  refine mf_of (plainFor_of_name (by decide)) (Nat.le_of_ble_eq_true rfl) ?_
  intro G hc _ hK1 hR1 hn hq
  have hK := hK1.trans hK0
  have hR := hR1.trans hR0
  have hN : ∀ i, Nat.blt i 1 = true → i < gnL G := fun i h => hn ▸ Nat.blt_eq.mp h
  unfold f_X8_status
  show WW G 0 [(0, .ref 43)] [] I L _
  refine w_aload_n (q := 1) (i := 0) (j := 0) hc dX8_status_0 rfl rfl rfl ?_
  refine w_iconst (q := 2) hc dX8_status_1 ci_0 rfl ?_
  refine pf_X8_104 (q := 5) hc dX8_status_2 (k_43 hK) rfl (fun I_1 => ?_)
  refine w_aload_n (q := 6) (i := 0) (j := 0) hc dX8_status_5 rfl rfl rfl ?_
  refine gf_X8_107 (q := 9) hc dX8_status_6 (k_43 hK) rfl ?_
  exact w_ireturn (v := (I_1 43 0)) hc hq dX8_status_9 rfl rfl rfl
set_option maxRecDepth 100000 in
set_option maxHeartbeats 4000000 in
theorem m_X8_refuse {l : Launch} {K : KT} {R : MR} {rm : Nat} {a1 : Int32} {I : MI} {L : ML} (hK0 : K = lK rm) (hR0 : R = lR rm) : MFg l yX8_refuse cX8_refuse 2 (some .int) 0 0 [.ref 43, .int a1] K R I L anIW meW (f_X8_refuse a1 I L) := by
  refine mf_of (plainFor_of_name (by decide)) (Nat.le_of_ble_eq_true rfl) ?_
  intro G hc _ hK1 hR1 hn hq
  have hK := hK1.trans hK0
  have hR := hR1.trans hR0
  have hN : ∀ i, Nat.blt i 2 = true → i < gnL G := fun i h => hn ▸ Nat.blt_eq.mp h
  unfold f_X8_refuse
  show WW G 0 [(0, .ref 43), (1, .int a1)] [] I L _
  refine w_aload_n (q := 1) (i := 0) (j := 0) hc dX8_refuse_0 rfl rfl rfl ?_
  refine w_iload_n (q := 2) (i := 1) (j := 1) hc dX8_refuse_1 rfl rfl rfl ?_
  refine pf_X8_107 (q := 5) hc dX8_refuse_2 (k_43 hK) rfl (fun I_1 => ?_)
  refine w_iconst (q := 6) hc dX8_refuse_5 ci_m1 rfl ?_
  exact w_ireturn (v := (-1)) hc hq dX8_refuse_6 rfl rfl rfl
set_option maxRecDepth 100000 in
set_option maxHeartbeats 4000000 in
theorem m_X8_is {l : Launch} {K : KT} {R : MR} {rm : Nat} {a1 : Int32} {I : MI} {L : ML} (hK0 : K = lK rm) (hR0 : R = lR rm) : MFg l yX8_is cX8_is 2 (some .boolean) 0 0 [.ref 43, .int a1] K R I L anZW meW (f_X8_is a1 I L) := by
  refine mf_of (plainFor_of_name (by decide)) (Nat.le_of_ble_eq_true rfl) ?_
  intro G hc _ hK1 hR1 hn hq
  have hK := hK1.trans hK0
  have hR := hR1.trans hR0
  have hN : ∀ i, Nat.blt i 2 = true → i < gnL G := fun i h => hn ▸ Nat.blt_eq.mp h
  unfold f_X8_is
  show WW G 0 [(0, .ref 43), (1, .int a1)] [] I L _
  refine w_aload_n (q := 1) (i := 0) (j := 0) hc dX8_is_0 rfl rfl rfl ?_
  refine w_iconst (q := 2) hc dX8_is_1 ci_0 rfl ?_
  refine pf_X8_104 (q := 5) hc dX8_is_2 (k_43 hK) rfl (fun I_1 => ?_)
  refine w_aload_n (q := 6) (i := 0) (j := 0) hc dX8_is_5 rfl rfl rfl ?_
  refine w_iload_n (q := 7) (i := 1) (j := 1) hc dX8_is_6 rfl rfl rfl ?_
  refine pf_X8_107 (q := 10) hc dX8_is_7 (k_43 hK) rfl (fun I_2 => ?_)
  refine w_iload_n (q := 11) (i := 1) (j := 1) hc dX8_is_10 rfl rfl rfl ?_
  refine w_ifne (q := 14) (tgt := 18) hc dX8_is_11 rfl rfl ?_ ?_
  · refine w_iconst (q := 15) hc dX8_is_14 ci_1 rfl ?_
    refine w_goto (tgt := 19) hc dX8_is_15 rfl ?_
    exact w_ireturn (v := b2i true) hc hq dX8_is_19 (nar_b2i true) rfl rfl
  · refine w_iconst (q := 19) hc dX8_is_18 ci_0 rfl ?_
    exact w_ireturn (v := b2i false) hc hq dX8_is_19 (nar_b2i false) rfl rfl
set_option maxRecDepth 100000 in
set_option maxHeartbeats 4000000 in
theorem m_X8_isIn {l : Launch} {K : KT} {R : MR} {rm : Nat} {a0 : Int64} {a2 : Int64} {a4 : Int64} {I : MI} {L : ML} (hK0 : K = lK rm) (hR0 : R = lR rm) : MFg l yX8_isIn cX8_isIn 6 (some .boolean) 0 0 [.long a0, .long a2, .long a4] K R I L anZ (meR I L) (f_X8_isIn a0 a2 a4) := by
  refine mf_of (plainFor_of_name (by decide)) (Nat.le_of_ble_eq_true rfl) ?_
  intro G hc _ hK1 hR1 hn hq
  have hK := hK1.trans hK0
  have hR := hR1.trans hR0
  have hN : ∀ i, Nat.blt i 6 = true → i < gnL G := fun i h => hn ▸ Nat.blt_eq.mp h
  unfold f_X8_isIn
  show WW G 0 [(0, .long a0), (2, .long a2), (4, .long a4)] [] I L _
  refine w_lload_n (q := 1) (i := 0) (j := 0) hc dX8_isIn_0 rfl rfl rfl ?_
  refine w_lload_n (q := 2) (i := 2) (j := 1) hc dX8_isIn_1 rfl rfl rfl ?_
  refine w_lcmp (q := 3) hc dX8_isIn_2  rfl ?_
  refine w_iflt (q := 6) (tgt := 17) hc dX8_isIn_3 rfl rfl ?_ ?_
  · refine w_iconst (q := 18) hc dX8_isIn_17 ci_0 rfl ?_
    exact w_ireturn (v := b2i false) hc hq dX8_isIn_18 (nar_b2i false) rfl rfl
  · refine w_lload_n (q := 7) (i := 0) (j := 0) hc dX8_isIn_6 rfl rfl rfl ?_
    refine w_lload (q := 9) (i := 4) (j := 2) hc dX8_isIn_7 rfl rfl ?_
    refine w_lcmp (q := 10) hc dX8_isIn_9  rfl ?_
    refine w_ifgt (q := 13) (tgt := 17) hc dX8_isIn_10 rfl rfl ?_ ?_
    · refine w_iconst (q := 18) hc dX8_isIn_17 ci_0 rfl ?_
      exact w_ireturn (v := b2i false) hc hq dX8_isIn_18 (nar_b2i false) rfl rfl
    · refine w_iconst (q := 14) hc dX8_isIn_13 ci_1 rfl ?_
      refine w_goto (tgt := 18) hc dX8_isIn_14 rfl ?_
      exact w_ireturn (v := b2i true) hc hq dX8_isIn_18 (nar_b2i true) rfl rfl
set_option maxRecDepth 100000 in
set_option maxHeartbeats 4000000 in
theorem m_X8_bit {l : Launch} {K : KT} {R : MR} {rm : Nat} {a0 : Int32} {a1 : Int32} {I : MI} {L : ML} (hK0 : K = lK rm) (hR0 : R = lR rm) : MFg l yX8_bit cX8_bit 2 (some .boolean) 0 0 [.int a0, .int a1] K R I L anZ (meR I L) (f_X8_bit a0 a1) := by
  refine mf_of (plainFor_of_name (by decide)) (Nat.le_of_ble_eq_true rfl) ?_
  intro G hc _ hK1 hR1 hn hq
  have hK := hK1.trans hK0
  have hR := hR1.trans hR0
  have hN : ∀ i, Nat.blt i 2 = true → i < gnL G := fun i h => hn ▸ Nat.blt_eq.mp h
  unfold f_X8_bit
  show WW G 0 [(0, .int a0), (1, .int a1)] [] I L _
  refine w_iload_n (q := 1) (i := 0) (j := 0) hc dX8_bit_0 rfl rfl rfl ?_
  refine w_iload_n (q := 2) (i := 1) (j := 1) hc dX8_bit_1 rfl rfl rfl ?_
  refine w_ishr (q := 3) hc dX8_bit_2  rfl ?_
  refine w_iconst (q := 4) hc dX8_bit_3 ci_1 rfl ?_
  refine w_iand (q := 5) hc dX8_bit_4  rfl ?_
  refine w_iconst (q := 6) hc dX8_bit_5 ci_1 rfl ?_
  refine w_icmpne (q := 9) (tgt := 13) hc dX8_bit_6 rfl rfl ?_ ?_
  · refine w_iconst (q := 10) hc dX8_bit_9 ci_1 rfl ?_
    refine w_goto (tgt := 14) hc dX8_bit_10 rfl ?_
    exact w_ireturn (v := b2i true) hc hq dX8_bit_14 (nar_b2i true) rfl rfl
  · refine w_iconst (q := 14) hc dX8_bit_13 ci_0 rfl ?_
    exact w_ireturn (v := b2i false) hc hq dX8_bit_14 (nar_b2i false) rfl rfl
set_option maxRecDepth 100000 in
set_option maxHeartbeats 4000000 in
theorem wl_X8_bits_4 {G : GT Int32} {rm : Nat} {I : MI} {L : ML} (hc : Cx G cX8_bits yX8_bits.cls (some .int) 0 0) (hq : RetQ G anI (meR I L)) (hK : gK G = lK rm) (hR : gR G = lR rm) (hn : gnL G = 3) : ∀ (n : Nat) (v1_1 : Int32) (v2_2 : Int32), WW G 4 [(1, .int v1_1), (2, .int v2_2)] [] I L (f_X8_bits_4 n v1_1 v2_2) := by
  have hN : ∀ i, Nat.blt i 3 = true → i < gnL G := fun i h => hn ▸ Nat.blt_eq.mp h
  intro n
  induction n with
  | zero => intros; exact w_none _ _ _
  | succ n ih =>
    intros v1_1 v2_2
    rw [f_X8_bits_4]
    refine w_iload_n (q := 5) (i := 2) (j := 1) hc dX8_bits_4 rfl rfl rfl ?_
    refine w_ifeq (q := 8) (tgt := 20) hc dX8_bits_5 rfl rfl ?_ ?_
    · refine w_iload_n (q := 21) (i := 1) (j := 0) hc dX8_bits_20 rfl rfl rfl ?_
      exact w_ireturn (v := v1_1) hc hq dX8_bits_21 rfl rfl rfl
    · refine w_iincB (q := 11) (i := 1) (j := 0) (lv' := fun v1_3 => [(1, .int v1_3), (2, .int v2_2)]) hc dX8_bits_8 rfl ci_1 (hN 1 rfl) (fun _ => rfl) rfl (fun v1_3 => ?_)
      refine w_iload_n (q := 12) (i := 2) (j := 1) hc dX8_bits_11 rfl rfl rfl ?_
      refine w_iload_n (q := 13) (i := 2) (j := 1) hc dX8_bits_12 rfl rfl rfl ?_
      refine w_iconst (q := 14) hc dX8_bits_13 ci_1 rfl ?_
      refine w_isub (q := 15) hc dX8_bits_14  rfl ?_
      refine w_iand (q := 16) hc dX8_bits_15  rfl ?_
      refine w_istore_nB (q := 17) (i := 2) (lv' := fun v2_4 => [(2, .int v2_4), (1, .int v1_3)]) hc dX8_bits_16 rfl (hN 2 rfl) (fun _ => rfl) rfl (fun v2_4 => ?_)
      refine w_goto (tgt := 4) hc dX8_bits_17 rfl ?_
      refine w_sub [1, 0] rfl ?_
      exact ih v1_3 v2_4
set_option maxRecDepth 100000 in
set_option maxHeartbeats 4000000 in
theorem m_X8_bits {l : Launch} {K : KT} {R : MR} {rm : Nat} {a0 : Int32} {I : MI} {L : ML} (hK0 : K = lK rm) (hR0 : R = lR rm) : MFg l yX8_bits cX8_bits 3 (some .int) 0 0 [.int a0] K R I L anI (meR I L) (f_X8_bits a0) := by
  refine mf_of (plainFor_of_name (by decide)) (Nat.le_of_ble_eq_true rfl) ?_
  intro G hc _ hK1 hR1 hn hq
  have hK := hK1.trans hK0
  have hR := hR1.trans hR0
  have hN : ∀ i, Nat.blt i 3 = true → i < gnL G := fun i h => hn ▸ Nat.blt_eq.mp h
  unfold f_X8_bits
  show WW G 0 [(0, .int a0)] [] I L _
  refine w_iconst (q := 1) hc dX8_bits_0 ci_0 rfl ?_
  refine w_istore_n (q := 2) (i := 1) (lv' := [(1, .int 0), (0, .int a0)]) hc dX8_bits_1 rfl (hN 1 rfl) rfl rfl ?_
  refine w_iload_n (q := 3) (i := 0) (j := 1) hc dX8_bits_2 rfl rfl rfl ?_
  refine w_istore_n (q := 4) (i := 2) (lv' := [(2, .int a0), (1, .int 0), (0, .int a0)]) hc dX8_bits_3 rfl (hN 2 rfl) rfl rfl ?_
  refine w_sub [1, 0] rfl ?_
  exact wl_X8_bits_4 hc hq hK hR hn FU 0 a0
set_option maxRecDepth 100000 in
set_option maxHeartbeats 4000000 in
theorem wl_X8_common_4 {G : GT Int32} {rm : Nat} {I : MI} {L : ML} (hc : Cx G cX8_common yX8_common.cls (some .int) 0 0) (hq : RetQ G anI (meR I L)) (hK : gK G = lK rm) (hR : gR G = lR rm) (hn : gnL G = 5) : ∀ (n : Nat) (v2_1 : Int32) (v3_2 : Int32), WW G 4 [(2, .int v2_1), (3, .int v3_2)] [] I L (f_X8_common_4 n v2_1 v3_2) := by
  have hN : ∀ i, Nat.blt i 5 = true → i < gnL G := fun i h => hn ▸ Nat.blt_eq.mp h
  intro n
  induction n with
  | zero => intros; exact w_none _ _ _
  | succ n ih =>
    intros v2_1 v3_2
    rw [f_X8_common_4]
    refine w_iload_n (q := 5) (i := 3) (j := 1) hc dX8_common_4 rfl rfl rfl ?_
    refine w_ifeq (q := 8) (tgt := 21) hc dX8_common_5 rfl rfl ?_ ?_
    · refine w_iload_n (q := 22) (i := 2) (j := 0) hc dX8_common_21 rfl rfl rfl ?_
      exact w_ireturn (v := v2_1) hc hq dX8_common_22 rfl rfl rfl
    · refine w_iload_n (q := 9) (i := 2) (j := 0) hc dX8_common_8 rfl rfl rfl ?_
      refine w_iload_n (q := 10) (i := 3) (j := 1) hc dX8_common_9 rfl rfl rfl ?_
      refine w_irem (q := 11) hc dX8_common_10  rfl ?_
      refine w_istoreB (q := 13) (i := 4) (lv' := fun v4_3 => [(4, .int v4_3), (2, .int v2_1), (3, .int v3_2)]) hc dX8_common_11 (hN 4 rfl) (fun _ => rfl) rfl (fun v4_3 => ?_)
      refine w_iload_n (q := 14) (i := 3) (j := 2) hc dX8_common_13 rfl rfl rfl ?_
      refine w_istore_n (q := 15) (i := 2) (lv' := [(2, .int v3_2), (4, .int v4_3), (3, .int v3_2)]) hc dX8_common_14 rfl (hN 2 rfl) rfl rfl ?_
      refine w_iload (q := 17) (i := 4) (j := 1) hc dX8_common_15 rfl rfl ?_
      refine w_istore_n (q := 18) (i := 3) (lv' := [(3, .int v4_3), (2, .int v3_2), (4, .int v4_3)]) hc dX8_common_17 rfl (hN 3 rfl) rfl rfl ?_
      refine w_goto (tgt := 4) hc dX8_common_18 rfl ?_
      refine w_sub [1, 0] rfl ?_
      exact ih v3_2 v4_3
set_option maxRecDepth 100000 in
set_option maxHeartbeats 4000000 in
theorem m_X8_common {l : Launch} {K : KT} {R : MR} {rm : Nat} {a0 : Int32} {a1 : Int32} {I : MI} {L : ML} (hK0 : K = lK rm) (hR0 : R = lR rm) : MFg l yX8_common cX8_common 5 (some .int) 0 0 [.int a0, .int a1] K R I L anI (meR I L) (f_X8_common a0 a1) := by
  refine mf_of (plainFor_of_name (by decide)) (Nat.le_of_ble_eq_true rfl) ?_
  intro G hc _ hK1 hR1 hn hq
  have hK := hK1.trans hK0
  have hR := hR1.trans hR0
  have hN : ∀ i, Nat.blt i 5 = true → i < gnL G := fun i h => hn ▸ Nat.blt_eq.mp h
  unfold f_X8_common
  show WW G 0 [(0, .int a0), (1, .int a1)] [] I L _
  refine w_iload_n (q := 1) (i := 0) (j := 0) hc dX8_common_0 rfl rfl rfl ?_
  refine w_istore_n (q := 2) (i := 2) (lv' := [(2, .int a0), (0, .int a0), (1, .int a1)]) hc dX8_common_1 rfl (hN 2 rfl) rfl rfl ?_
  refine w_iload_n (q := 3) (i := 1) (j := 2) hc dX8_common_2 rfl rfl rfl ?_
  refine w_istore_n (q := 4) (i := 3) (lv' := [(3, .int a1), (2, .int a0), (0, .int a0), (1, .int a1)]) hc dX8_common_3 rfl (hN 3 rfl) rfl rfl ?_
  refine w_sub [1, 0] rfl ?_
  exact wl_X8_common_4 hc hq hK hR hn FU a0 a1
set_option maxRecDepth 100000 in
set_option maxHeartbeats 4000000 in
theorem m_X8_moves {l : Launch} {K : KT} {R : MR} {rm : Nat} {I : MI} {L : ML} (hK0 : K = lK rm) (hR0 : R = lR rm) : MFg l yX8_moves cX8_moves 1 (some .int) 0 0 [.ref 43] K R I L anI (meR I L) (f_X8_moves I L) := by
  refine mf_of (plainFor_of_name (by decide)) (Nat.le_of_ble_eq_true rfl) ?_
  intro G hc _ hK1 hR1 hn hq
  have hK := hK1.trans hK0
  have hR := hR1.trans hR0
  have hN : ∀ i, Nat.blt i 1 = true → i < gnL G := fun i h => hn ▸ Nat.blt_eq.mp h
  unfold f_X8_moves
  show WW G 0 [(0, .ref 43)] [] I L _
  refine w_aload_n (q := 1) (i := 0) (j := 0) hc dX8_moves_0 rfl rfl rfl ?_
  refine gf_X8_7 (q := 4) hc dX8_moves_1 (k_43 hK) (r_43_4 hR) rfl ?_
  refine w_iconst (q := 5) hc dX8_moves_4 ci_0 rfl ?_
  refine w_iald (q := 6) hc dX8_moves_5 (k_44 hK) rfl ?_
  exact w_ireturn (v := (I 44 (ix 0))) hc hq dX8_moves_6 rfl rfl rfl
set_option maxRecDepth 100000 in
set_option maxHeartbeats 4000000 in
theorem m_X8_isMove {l : Launch} {K : KT} {R : MR} {rm : Nat} {a1 : Int32} {I : MI} {L : ML} (hK0 : K = lK rm) (hR0 : R = lR rm) : MFg l yX8_isMove cX8_isMove 2 (some .boolean) 1 25 [.ref 43, .int a1] K R I L anZ (meR I L) (f_X8_isMove a1 I L) := by
  refine mf_of (plainFor_of_name (by decide)) (Nat.le_of_ble_eq_true rfl) ?_
  intro G hc _ hK1 hR1 hn hq
  have hK := hK1.trans hK0
  have hR := hR1.trans hR0
  have hN : ∀ i, Nat.blt i 2 = true → i < gnL G := fun i h => hn ▸ Nat.blt_eq.mp h
  unfold f_X8_isMove
  show WW G 0 [(0, .ref 43), (1, .int a1)] [] I L _
  refine w_iload_n (q := 1) (i := 1) (j := 1) hc dX8_isMove_0 rfl rfl rfl ?_
  refine w_i2l (q := 2) hc dX8_isMove_1  rfl ?_
  refine w_lconst (q := 3) hc dX8_isMove_2 cl_0 rfl ?_
  refine w_aload_n (q := 4) (i := 0) (j := 0) hc dX8_isMove_3 rfl rfl rfl ?_
  refine w_callV_Ri (q := 7) (st := [.long 0, .long (Int32.toInt64 a1)]) (args := []) (p := 43) hc (m_X8_moves hK hR) dX8_isMove_4 ml_X8_110 cf_X8_moves iv_X8_moves (k_43 hK) (C := RX8) (T := TX8) (N := 45) rfl rfl (Nat.lt_of_succ_le (Nat.le_of_ble_eq_true rfl)) rfl rfl (Nat.le_of_ble_eq_true rfl) ⟨Nat.le_of_ble_eq_true rfl, Nat.le_of_ble_eq_true rfl⟩ rfl (fun q_1 => ?_)
  refine w_iconst (q := 8) hc dX8_isMove_7 ci_1 rfl ?_
  refine w_isub (q := 9) hc dX8_isMove_8  rfl ?_
  refine w_i2l (q := 10) hc dX8_isMove_9  rfl ?_
  refine w_callS_Rz (q := 13) (st := []) (args := [.long (Int32.toInt64 a1), .long 0, .long (Int32.toInt64 (q_1 - 1))]) hc (m_X8_isIn hK hR) dX8_isMove_10 ml_X8_114 cf_X8_isIn st_X8_isIn rfl rfl (Nat.le_of_ble_eq_true rfl) ⟨Nat.le_of_ble_eq_true rfl, Nat.le_of_ble_eq_true rfl⟩ rfl (fun q_2 => ?_)
  exact w_ireturn (v := b2i q_2) hc hq dX8_isMove_13 (nar_b2i q_2) rfl rfl
set_option maxRecDepth 100000 in
set_option maxHeartbeats 4000000 in
theorem m_X8_isStep {l : Launch} {K : KT} {R : MR} {rm : Nat} {a1 : Int32} {I : MI} {L : ML} (hK0 : K = lK rm) (hR0 : R = lR rm) : MFg l yX8_isStep cX8_isStep 2 (some .boolean) 1 25 [.ref 43, .int a1] K R I L anZ (meR I L) (f_X8_isStep a1 I L) := by
  refine mf_of (plainFor_of_name (by decide)) (Nat.le_of_ble_eq_true rfl) ?_
  intro G hc _ hK1 hR1 hn hq
  have hK := hK1.trans hK0
  have hR := hR1.trans hR0
  have hN : ∀ i, Nat.blt i 2 = true → i < gnL G := fun i h => hn ▸ Nat.blt_eq.mp h
  unfold f_X8_isStep
  show WW G 0 [(0, .ref 43), (1, .int a1)] [] I L _
  refine w_iload_n (q := 1) (i := 1) (j := 1) hc dX8_isStep_0 rfl rfl rfl ?_
  refine w_i2l (q := 2) hc dX8_isStep_1  rfl ?_
  refine w_lconst (q := 3) hc dX8_isStep_2 cl_0 rfl ?_
  refine w_iconst (q := 4) hc dX8_isStep_3 ci_2 rfl ?_
  refine w_aload_n (q := 5) (i := 0) (j := 0) hc dX8_isStep_4 rfl rfl rfl ?_
  refine w_callV_Ri (q := 8) (st := [.int 2, .long 0, .long (Int32.toInt64 a1)]) (args := []) (p := 43) hc (m_X8_moves hK hR) dX8_isStep_5 ml_X8_110 cf_X8_moves iv_X8_moves (k_43 hK) (C := RX8) (T := TX8) (N := 45) rfl rfl (Nat.lt_of_succ_le (Nat.le_of_ble_eq_true rfl)) rfl rfl (Nat.le_of_ble_eq_true rfl) ⟨Nat.le_of_ble_eq_true rfl, Nat.le_of_ble_eq_true rfl⟩ rfl (fun q_1 => ?_)
  refine w_imul (q := 9) hc dX8_isStep_8  rfl ?_
  refine w_iconst (q := 10) hc dX8_isStep_9 ci_1 rfl ?_
  refine w_isub (q := 11) hc dX8_isStep_10  rfl ?_
  refine w_i2l (q := 12) hc dX8_isStep_11  rfl ?_
  refine w_callS_Rz (q := 15) (st := []) (args := [.long (Int32.toInt64 a1), .long 0, .long (Int32.toInt64 ((2 * q_1) - 1))]) hc (m_X8_isIn hK hR) dX8_isStep_12 ml_X8_114 cf_X8_isIn st_X8_isIn rfl rfl (Nat.le_of_ble_eq_true rfl) ⟨Nat.le_of_ble_eq_true rfl, Nat.le_of_ble_eq_true rfl⟩ rfl (fun q_2 => ?_)
  exact w_ireturn (v := b2i q_2) hc hq dX8_isStep_15 (nar_b2i q_2) rfl rfl
set_option maxRecDepth 100000 in
set_option maxHeartbeats 4000000 in
theorem m_X8_isPoint {l : Launch} {K : KT} {R : MR} {rm : Nat} {a1 : Int32} {I : MI} {L : ML} (hK0 : K = lK rm) (hR0 : R = lR rm) : MFg l yX8_isPoint cX8_isPoint 2 (some .boolean) 1 25 [.ref 43, .int a1] K R I L anZ (meR I L) (f_X8_isPoint a1 I L) := by
  refine mf_of (plainFor_of_name (by decide)) (Nat.le_of_ble_eq_true rfl) ?_
  intro G hc _ hK1 hR1 hn hq
  have hK := hK1.trans hK0
  have hR := hR1.trans hR0
  have hN : ∀ i, Nat.blt i 2 = true → i < gnL G := fun i h => hn ▸ Nat.blt_eq.mp h
  unfold f_X8_isPoint
  show WW G 0 [(0, .ref 43), (1, .int a1)] [] I L _
  refine w_iload_n (q := 1) (i := 1) (j := 1) hc dX8_isPoint_0 rfl rfl rfl ?_
  refine w_i2l (q := 2) hc dX8_isPoint_1  rfl ?_
  refine w_lconst (q := 3) hc dX8_isPoint_2 cl_0 rfl ?_
  refine w_aload_n (q := 4) (i := 0) (j := 0) hc dX8_isPoint_3 rfl rfl rfl ?_
  refine gf_X8_118 (q := 7) hc dX8_isPoint_4 (k_43 hK) rfl ?_
  refine w_iconst (q := 8) hc dX8_isPoint_7 ci_1 rfl ?_
  refine w_isub (q := 9) hc dX8_isPoint_8  rfl ?_
  refine w_i2l (q := 10) hc dX8_isPoint_9  rfl ?_
  refine w_callS_Rz (q := 13) (st := []) (args := [.long (Int32.toInt64 a1), .long 0, .long (Int32.toInt64 ((I 43 2) - 1))]) hc (m_X8_isIn hK hR) dX8_isPoint_10 ml_X8_114 cf_X8_isIn st_X8_isIn rfl rfl (Nat.le_of_ble_eq_true rfl) ⟨Nat.le_of_ble_eq_true rfl, Nat.le_of_ble_eq_true rfl⟩ rfl (fun q_1 => ?_)
  exact w_ireturn (v := b2i q_1) hc hq dX8_isPoint_13 (nar_b2i q_1) rfl rfl
set_option maxRecDepth 100000 in
set_option maxHeartbeats 4000000 in
theorem m_X8_isSet {l : Launch} {K : KT} {R : MR} {rm : Nat} {a1 : Int32} {I : MI} {L : ML} (hK0 : K = lK rm) (hR0 : R = lR rm) : MFg l yX8_isSet cX8_isSet 2 (some .boolean) 1 25 [.ref 43, .int a1] K R I L anZ (meR I L) (f_X8_isSet a1 I L) := by
  refine mf_of (plainFor_of_name (by decide)) (Nat.le_of_ble_eq_true rfl) ?_
  intro G hc _ hK1 hR1 hn hq
  have hK := hK1.trans hK0
  have hR := hR1.trans hR0
  have hN : ∀ i, Nat.blt i 2 = true → i < gnL G := fun i h => hn ▸ Nat.blt_eq.mp h
  unfold f_X8_isSet
  show WW G 0 [(0, .ref 43), (1, .int a1)] [] I L _
  refine w_iload_n (q := 1) (i := 1) (j := 1) hc dX8_isSet_0 rfl rfl rfl ?_
  refine w_i2l (q := 2) hc dX8_isSet_1  rfl ?_
  refine w_lconst (q := 3) hc dX8_isSet_2 cl_1 rfl ?_
  refine w_iconst (q := 4) hc dX8_isSet_3 ci_1 rfl ?_
  refine w_aload_n (q := 5) (i := 0) (j := 0) hc dX8_isSet_4 rfl rfl rfl ?_
  refine gf_X8_118 (q := 8) hc dX8_isSet_5 (k_43 hK) rfl ?_
  refine w_ishl (q := 9) hc dX8_isSet_8  rfl ?_
  refine w_iconst (q := 10) hc dX8_isSet_9 ci_1 rfl ?_
  refine w_isub (q := 11) hc dX8_isSet_10  rfl ?_
  refine w_i2l (q := 12) hc dX8_isSet_11  rfl ?_
  refine w_callS_Rz (q := 15) (st := []) (args := [.long (Int32.toInt64 a1), .long 1, .long (Int32.toInt64 ((shl 1 (I 43 2)) - 1))]) hc (m_X8_isIn hK hR) dX8_isSet_12 ml_X8_114 cf_X8_isIn st_X8_isIn rfl rfl (Nat.le_of_ble_eq_true rfl) ⟨Nat.le_of_ble_eq_true rfl, Nat.le_of_ble_eq_true rfl⟩ rfl (fun q_1 => ?_)
  exact w_ireturn (v := b2i q_1) hc hq dX8_isSet_15 (nar_b2i q_1) rfl rfl
set_option maxRecDepth 100000 in
set_option maxHeartbeats 4000000 in
theorem m_X8_areMoves {l : Launch} {K : KT} {R : MR} {rm : Nat} {a1 : Int32} {I : MI} {L : ML} (hK0 : K = lK rm) (hR0 : R = lR rm) : MFg l yX8_areMoves cX8_areMoves 2 (some .boolean) 1 25 [.ref 43, .int a1] K R I L anZ (meR I L) (f_X8_areMoves a1 I L) := by
  refine mf_of (plainFor_of_name (by decide)) (Nat.le_of_ble_eq_true rfl) ?_
  intro G hc _ hK1 hR1 hn hq
  have hK := hK1.trans hK0
  have hR := hR1.trans hR0
  have hN : ∀ i, Nat.blt i 2 = true → i < gnL G := fun i h => hn ▸ Nat.blt_eq.mp h
  unfold f_X8_areMoves
  show WW G 0 [(0, .ref 43), (1, .int a1)] [] I L _
  refine w_iload_n (q := 1) (i := 1) (j := 1) hc dX8_areMoves_0 rfl rfl rfl ?_
  refine w_i2l (q := 2) hc dX8_areMoves_1  rfl ?_
  refine w_lconst (q := 3) hc dX8_areMoves_2 cl_0 rfl ?_
  refine w_iconst (q := 4) hc dX8_areMoves_3 ci_1 rfl ?_
  refine w_aload_n (q := 5) (i := 0) (j := 0) hc dX8_areMoves_4 rfl rfl rfl ?_
  refine w_callV_Ri (q := 8) (st := [.int 1, .long 0, .long (Int32.toInt64 a1)]) (args := []) (p := 43) hc (m_X8_moves hK hR) dX8_areMoves_5 ml_X8_110 cf_X8_moves iv_X8_moves (k_43 hK) (C := RX8) (T := TX8) (N := 45) rfl rfl (Nat.lt_of_succ_le (Nat.le_of_ble_eq_true rfl)) rfl rfl (Nat.le_of_ble_eq_true rfl) ⟨Nat.le_of_ble_eq_true rfl, Nat.le_of_ble_eq_true rfl⟩ rfl (fun q_1 => ?_)
  refine w_ishl (q := 9) hc dX8_areMoves_8  rfl ?_
  refine w_iconst (q := 10) hc dX8_areMoves_9 ci_1 rfl ?_
  refine w_isub (q := 11) hc dX8_areMoves_10  rfl ?_
  refine w_i2l (q := 12) hc dX8_areMoves_11  rfl ?_
  refine w_callS_Rz (q := 15) (st := []) (args := [.long (Int32.toInt64 a1), .long 0, .long (Int32.toInt64 ((shl 1 q_1) - 1))]) hc (m_X8_isIn hK hR) dX8_areMoves_12 ml_X8_114 cf_X8_isIn st_X8_isIn rfl rfl (Nat.le_of_ble_eq_true rfl) ⟨Nat.le_of_ble_eq_true rfl, Nat.le_of_ble_eq_true rfl⟩ rfl (fun q_2 => ?_)
  exact w_ireturn (v := b2i q_2) hc hq dX8_areMoves_15 (nar_b2i q_2) rfl rfl
set_option maxRecDepth 100000 in
set_option maxHeartbeats 4000000 in
theorem wl_X8_remembers_11 {G : GT Mm} {rm : Nat} (L : ML) (hc : Cx G cX8_remembers yX8_remembers.cls none 0 0) (hq : RetQ G anV meV) (hK : gK G = lK rm) (hR : gR G = lR rm) (hn : gnL G = 2) (k0 : MI → Option Mm) (hk0 : ∀ (I_5 : MI), WW G 39 [(0, .ref 43)] [] I_5 L (k0 I_5)) : ∀ (n : Nat) (v1_1 : Int32) (I_2 : MI), WW G 11 [(0, .ref 43), (1, .int v1_1)] [] I_2 L (f_X8_remembers_11 L k0 n v1_1 I_2) := by
  have hN : ∀ i, Nat.blt i 2 = true → i < gnL G := fun i h => hn ▸ Nat.blt_eq.mp h
  intro n
  induction n with
  | zero => intros; exact w_none _ _ _
  | succ n ih =>
    intros v1_1 I_2
    rw [f_X8_remembers_11]
    refine w_iload_n (q := 12) (i := 1) (j := 1) hc dX8_remembers_11 rfl rfl rfl ?_
    refine w_sipush (q := 15) hc dX8_remembers_12 cs_781 rfl ?_
    refine w_icmpge (q := 18) (tgt := 39) hc dX8_remembers_15 rfl rfl ?_ ?_
    · refine w_sub [0] rfl ?_
      exact hk0 I_2
    · refine w_aload_n (q := 19) (i := 0) (j := 0) hc dX8_remembers_18 rfl rfl rfl ?_
      refine gf_X8_13 (q := 22) hc dX8_remembers_19 (k_43 hK) (r_43_5 hR) rfl ?_
      refine w_iload_n (q := 23) (i := 1) (j := 1) hc dX8_remembers_22 rfl rfl rfl ?_
      refine w_aload_n (q := 24) (i := 0) (j := 0) hc dX8_remembers_23 rfl rfl rfl ?_
      refine gf_X8_13 (q := 27) hc dX8_remembers_24 (k_43 hK) (r_43_5 hR) rfl ?_
      refine w_iload_n (q := 28) (i := 1) (j := 1) hc dX8_remembers_27 rfl rfl rfl ?_
      refine w_bipush (q := 30) hc dX8_remembers_28 cb_71 rfl ?_
      refine w_iadd (q := 31) hc dX8_remembers_30  rfl ?_
      refine w_iald (q := 32) hc dX8_remembers_31 (k_45 hK) rfl ?_
      refine w_iast (q := 33) hc dX8_remembers_32 (k_45 hK) rfl (fun I_3 => ?_)
      refine w_iincB (q := 36) (i := 1) (j := 1) (lv' := fun v1_4 => [(1, .int v1_4), (0, .ref 43)]) hc dX8_remembers_33 rfl ci_1 (hN 1 rfl) (fun _ => rfl) rfl (fun v1_4 => ?_)
      refine w_goto (tgt := 11) hc dX8_remembers_36 rfl ?_
      refine w_sub [1, 0] rfl ?_
      exact ih v1_4 I_3
set_option maxRecDepth 100000 in
set_option maxHeartbeats 4000000 in
theorem wl_X8_remembers_51 {G : GT Mm} {rm : Nat} (L : ML) (hc : Cx G cX8_remembers yX8_remembers.cls none 0 0) (hq : RetQ G anV meV) (hK : gK G = lK rm) (hR : gR G = lR rm) (hn : gnL G = 2) (k0 : MI → Option Mm) (hk0 : ∀ (I_12 : MI), WW G 83 [(0, .ref 43)] [] I_12 L (k0 I_12)) : ∀ (n : Nat) (v1_8 : Int32) (I_9 : MI), WW G 51 [(0, .ref 43), (1, .int v1_8)] [] I_9 L (f_X8_remembers_51 L k0 n v1_8 I_9) := by
  have hN : ∀ i, Nat.blt i 2 = true → i < gnL G := fun i h => hn ▸ Nat.blt_eq.mp h
  intro n
  induction n with
  | zero => intros; exact w_none _ _ _
  | succ n ih =>
    intros v1_8 I_9
    rw [f_X8_remembers_51]
    refine w_iload_n (q := 52) (i := 1) (j := 1) hc dX8_remembers_51 rfl rfl rfl ?_
    refine w_bipush (q := 54) hc dX8_remembers_52 cb_71 rfl ?_
    refine w_icmpge (q := 57) (tgt := 83) hc dX8_remembers_54 rfl rfl ?_ ?_
    · refine w_sub [0] rfl ?_
      exact hk0 I_9
    · refine w_aload_n (q := 58) (i := 0) (j := 0) hc dX8_remembers_57 rfl rfl rfl ?_
      refine gf_X8_13 (q := 61) hc dX8_remembers_58 (k_43 hK) (r_43_5 hR) rfl ?_
      refine w_bipush (q := 63) hc dX8_remembers_61 cb_71 rfl ?_
      refine w_aload_n (q := 64) (i := 0) (j := 0) hc dX8_remembers_63 rfl rfl rfl ?_
      refine gf_X8_121 (q := 67) hc dX8_remembers_64 (k_43 hK) rfl ?_
      refine w_imul (q := 68) hc dX8_remembers_67  rfl ?_
      refine w_iload_n (q := 69) (i := 1) (j := 1) hc dX8_remembers_68 rfl rfl rfl ?_
      refine w_iadd (q := 70) hc dX8_remembers_69  rfl ?_
      refine w_aload_n (q := 71) (i := 0) (j := 0) hc dX8_remembers_70 rfl rfl rfl ?_
      refine gf_X8_7 (q := 74) hc dX8_remembers_71 (k_43 hK) (r_43_4 hR) rfl ?_
      refine w_iload_n (q := 75) (i := 1) (j := 1) hc dX8_remembers_74 rfl rfl rfl ?_
      refine w_iald (q := 76) hc dX8_remembers_75 (k_44 hK) rfl ?_
      refine w_iast (q := 77) hc dX8_remembers_76 (k_45 hK) rfl (fun I_10 => ?_)
      refine w_iincB (q := 80) (i := 1) (j := 1) (lv' := fun v1_11 => [(1, .int v1_11), (0, .ref 43)]) hc dX8_remembers_77 rfl ci_1 (hN 1 rfl) (fun _ => rfl) rfl (fun v1_11 => ?_)
      refine w_goto (tgt := 51) hc dX8_remembers_80 rfl ?_
      refine w_sub [1, 0] rfl ?_
      exact ih v1_11 I_10
set_option maxRecDepth 100000 in
set_option maxHeartbeats 4000000 in
theorem m_X8_remembers {l : Launch} {K : KT} {R : MR} {rm : Nat} {I : MI} {L : ML} (hK0 : K = lK rm) (hR0 : R = lR rm) : MFg l yX8_remembers cX8_remembers 2 none 0 0 [.ref 43] K R I L anV meV (f_X8_remembers I L) := by
  refine mf_of (plainFor_of_name (by decide)) (Nat.le_of_ble_eq_true rfl) ?_
  intro G hc _ hK1 hR1 hn hq
  have hK := hK1.trans hK0
  have hR := hR1.trans hR0
  have hN : ∀ i, Nat.blt i 2 = true → i < gnL G := fun i h => hn ▸ Nat.blt_eq.mp h
  unfold f_X8_remembers
  show WW G 0 [(0, .ref 43)] [] I L _
  refine w_aload_n (q := 1) (i := 0) (j := 0) hc dX8_remembers_0 rfl rfl rfl ?_
  refine gf_X8_121 (q := 4) hc dX8_remembers_1 (k_43 hK) rfl ?_
  refine w_bipush (q := 6) hc dX8_remembers_4 cb_12 rfl ?_
  refine w_join (fun j49_173 : MI → Option Mm => ∀ (I_7 : MI), WW G 49 [(0, .ref 43)] [] I_7 L (j49_173 I_7)) ?_ ?_
  · intro I_7
    refine w_iconst (q := 50) hc dX8_remembers_49 ci_0 rfl ?_
    refine w_istore_n (q := 51) (i := 1) (lv' := [(1, .int 0), (0, .ref 43)]) hc dX8_remembers_50 rfl (hN 1 rfl) rfl rfl ?_
    refine w_sub [1, 0] rfl ?_
    refine wl_X8_remembers_51 L hc hq hK hR hn _ ?_ FU 0 I_7
    intro I_12
    refine w_aload_n (q := 84) (i := 0) (j := 0) hc dX8_remembers_83 rfl rfl rfl ?_
    refine w_dup_ref (q := 85) hc dX8_remembers_84  rfl ?_
    refine gf_X8_121 (q := 88) hc dX8_remembers_85 (k_43 hK) rfl ?_
    refine w_iconst (q := 89) hc dX8_remembers_88 ci_1 rfl ?_
    refine w_iadd (q := 90) hc dX8_remembers_89  rfl ?_
    refine pf_X8_121 (q := 93) hc dX8_remembers_90 (k_43 hK) rfl (fun I_13 => ?_)
    exact w_return hc hq dX8_remembers_93 rfl rfl
  · intro j49_173 hj49_173
    refine w_icmpne (q := 9) (tgt := 49) hc dX8_remembers_6 rfl rfl ?_ ?_
    · refine w_iconst (q := 10) hc dX8_remembers_9 ci_0 rfl ?_
      refine w_istore_n (q := 11) (i := 1) (lv' := [(1, .int 0), (0, .ref 43)]) hc dX8_remembers_10 rfl (hN 1 rfl) rfl rfl ?_
      refine w_sub [1, 0] rfl ?_
      refine wl_X8_remembers_11 L hc hq hK hR hn _ ?_ FU 0 I
      intro I_5
      refine w_aload_n (q := 40) (i := 0) (j := 0) hc dX8_remembers_39 rfl rfl rfl ?_
      refine w_dup_ref (q := 41) hc dX8_remembers_40  rfl ?_
      refine gf_X8_121 (q := 44) hc dX8_remembers_41 (k_43 hK) rfl ?_
      refine w_iconst (q := 45) hc dX8_remembers_44 ci_1 rfl ?_
      refine w_isub (q := 46) hc dX8_remembers_45  rfl ?_
      refine pf_X8_121 (q := 49) hc dX8_remembers_46 (k_43 hK) rfl (fun I_6 => ?_)
      exact hj49_173 I_6
    · exact hj49_173 I
set_option maxRecDepth 100000 in
set_option maxHeartbeats 4000000 in
theorem wl_X8_makes_2 {G : GT Mm} {rm : Nat} (a0 : Nat) (a1 : Nat) (a2 : Nat) (L : ML) (hc : Cx G cX8_makes yX8_makes.cls none 0 0) (hq : RetQ G anV meV) (hK : gK G = lK rm) (hR : gR G = lR rm) (hn : gnL G = 4) (ha0 : (lK rm)[a0]? = some (10, 10)) (ha1 : (lK rm)[a1]? = some (10, 10)) (ha2 : (lK rm)[a2]? = some (10, 10)) : ∀ (n : Nat) (v3_1 : Int32) (I_2 : MI), WW G 2 [(0, .ref a0), (1, .ref a1), (2, .ref a2), (3, .int v3_1)] [] I_2 L (f_X8_makes_2 a0 a1 a2 L n v3_1 I_2) := by
  have hN : ∀ i, Nat.blt i 4 = true → i < gnL G := fun i h => hn ▸ Nat.blt_eq.mp h
  intro n
  induction n with
  | zero => intros; exact w_none _ _ _
  | succ n ih =>
    intros v3_1 I_2
    rw [f_X8_makes_2]
    refine w_iload_n (q := 3) (i := 3) (j := 3) hc dX8_makes_2 rfl rfl rfl ?_
    refine w_bipush (q := 5) hc dX8_makes_3 cb_10 rfl ?_
    refine w_icmpge (q := 8) (tgt := 22) hc dX8_makes_5 rfl rfl ?_ ?_
    · exact w_return hc hq dX8_makes_22 rfl rfl
    · refine w_aload_n (q := 9) (i := 2) (j := 2) hc dX8_makes_8 rfl rfl rfl ?_
      refine w_iload_n (q := 10) (i := 3) (j := 3) hc dX8_makes_9 rfl rfl rfl ?_
      refine w_aload_n (q := 11) (i := 1) (j := 1) hc dX8_makes_10 rfl rfl rfl ?_
      refine w_aload_n (q := 12) (i := 0) (j := 0) hc dX8_makes_11 rfl rfl rfl ?_
      refine w_iload_n (q := 13) (i := 3) (j := 3) hc dX8_makes_12 rfl rfl rfl ?_
      refine w_iald (q := 14) hc dX8_makes_13 (kA hK ha0) rfl ?_
      refine w_iald (q := 15) hc dX8_makes_14 (kA hK ha1) rfl ?_
      refine w_iast (q := 16) hc dX8_makes_15 (kA hK ha2) rfl (fun I_3 => ?_)
      refine w_iincB (q := 19) (i := 3) (j := 3) (lv' := fun v3_4 => [(3, .int v3_4), (0, .ref a0), (1, .ref a1), (2, .ref a2)]) hc dX8_makes_16 rfl ci_1 (hN 3 rfl) (fun _ => rfl) rfl (fun v3_4 => ?_)
      refine w_goto (tgt := 2) hc dX8_makes_19 rfl ?_
      refine w_sub [1, 2, 3, 0] rfl ?_
      exact ih v3_4 I_3
set_option maxRecDepth 100000 in
set_option maxHeartbeats 4000000 in
theorem m_X8_makes {l : Launch} {K : KT} {R : MR} {rm : Nat} {a0 : Nat} {a1 : Nat} {a2 : Nat} {I : MI} {L : ML} (hK0 : K = lK rm) (hR0 : R = lR rm) (ha0 : (lK rm)[a0]? = some (10, 10)) (ha1 : (lK rm)[a1]? = some (10, 10)) (ha2 : (lK rm)[a2]? = some (10, 10)) : MFg l yX8_makes cX8_makes 4 none 0 0 [.ref a0, .ref a1, .ref a2] K R I L anV meV (f_X8_makes a0 a1 a2 I L) := by
  refine mf_of (plainFor_of_name (by decide)) (Nat.le_of_ble_eq_true rfl) ?_
  intro G hc _ hK1 hR1 hn hq
  have hK := hK1.trans hK0
  have hR := hR1.trans hR0
  have hN : ∀ i, Nat.blt i 4 = true → i < gnL G := fun i h => hn ▸ Nat.blt_eq.mp h
  unfold f_X8_makes
  show WW G 0 [(0, .ref a0), (1, .ref a1), (2, .ref a2)] [] I L _
  refine w_iconst (q := 1) hc dX8_makes_0 ci_0 rfl ?_
  refine w_istore_n (q := 2) (i := 3) (lv' := [(3, .int 0), (0, .ref a0), (1, .ref a1), (2, .ref a2)]) hc dX8_makes_1 rfl (hN 3 rfl) rfl rfl ?_
  refine w_sub [1, 2, 3, 0] rfl ?_
  exact wl_X8_makes_2 a0 a1 a2 L hc hq hK hR hn ha0 ha1 ha2 FU 0 I
set_option maxRecDepth 100000 in
set_option maxHeartbeats 4000000 in
theorem wl_X8_inverts_2 {G : GT Mm} {rm : Nat} (a0 : Nat) (a1 : Nat) (L : ML) (hc : Cx G cX8_inverts yX8_inverts.cls none 0 0) (hq : RetQ G anV meV) (hK : gK G = lK rm) (hR : gR G = lR rm) (hn : gnL G = 3) (ha0 : (lK rm)[a0]? = some (10, 10)) (ha1 : (lK rm)[a1]? = some (10, 10)) : ∀ (n : Nat) (v2_1 : Int32) (I_2 : MI), WW G 2 [(0, .ref a0), (1, .ref a1), (2, .int v2_1)] [] I_2 L (f_X8_inverts_2 a0 a1 L n v2_1 I_2) := by
  have hN : ∀ i, Nat.blt i 3 = true → i < gnL G := fun i h => hn ▸ Nat.blt_eq.mp h
  intro n
  induction n with
  | zero => intros; exact w_none _ _ _
  | succ n ih =>
    intros v2_1 I_2
    rw [f_X8_inverts_2]
    refine w_iload_n (q := 3) (i := 2) (j := 2) hc dX8_inverts_2 rfl rfl rfl ?_
    refine w_bipush (q := 5) hc dX8_inverts_3 cb_10 rfl ?_
    refine w_icmpge (q := 8) (tgt := 20) hc dX8_inverts_5 rfl rfl ?_ ?_
    · exact w_return hc hq dX8_inverts_20 rfl rfl
    · refine w_aload_n (q := 9) (i := 1) (j := 1) hc dX8_inverts_8 rfl rfl rfl ?_
      refine w_aload_n (q := 10) (i := 0) (j := 0) hc dX8_inverts_9 rfl rfl rfl ?_
      refine w_iload_n (q := 11) (i := 2) (j := 2) hc dX8_inverts_10 rfl rfl rfl ?_
      refine w_iald (q := 12) hc dX8_inverts_11 (kA hK ha0) rfl ?_
      refine w_iload_n (q := 13) (i := 2) (j := 2) hc dX8_inverts_12 rfl rfl rfl ?_
      refine w_iast (q := 14) hc dX8_inverts_13 (kA hK ha1) rfl (fun I_3 => ?_)
      refine w_iincB (q := 17) (i := 2) (j := 2) (lv' := fun v2_4 => [(2, .int v2_4), (0, .ref a0), (1, .ref a1)]) hc dX8_inverts_14 rfl ci_1 (hN 2 rfl) (fun _ => rfl) rfl (fun v2_4 => ?_)
      refine w_goto (tgt := 2) hc dX8_inverts_17 rfl ?_
      refine w_sub [1, 2, 0] rfl ?_
      exact ih v2_4 I_3
set_option maxRecDepth 100000 in
set_option maxHeartbeats 4000000 in
theorem m_X8_inverts {l : Launch} {K : KT} {R : MR} {rm : Nat} {a0 : Nat} {a1 : Nat} {I : MI} {L : ML} (hK0 : K = lK rm) (hR0 : R = lR rm) (ha0 : (lK rm)[a0]? = some (10, 10)) (ha1 : (lK rm)[a1]? = some (10, 10)) : MFg l yX8_inverts cX8_inverts 3 none 0 0 [.ref a0, .ref a1] K R I L anV meV (f_X8_inverts a0 a1 I L) := by
  refine mf_of (plainFor_of_name (by decide)) (Nat.le_of_ble_eq_true rfl) ?_
  intro G hc _ hK1 hR1 hn hq
  have hK := hK1.trans hK0
  have hR := hR1.trans hR0
  have hN : ∀ i, Nat.blt i 3 = true → i < gnL G := fun i h => hn ▸ Nat.blt_eq.mp h
  unfold f_X8_inverts
  show WW G 0 [(0, .ref a0), (1, .ref a1)] [] I L _
  refine w_iconst (q := 1) hc dX8_inverts_0 ci_0 rfl ?_
  refine w_istore_n (q := 2) (i := 2) (lv' := [(2, .int 0), (0, .ref a0), (1, .ref a1)]) hc dX8_inverts_1 rfl (hN 2 rfl) rfl rfl ?_
  refine w_sub [1, 2, 0] rfl ?_
  exact wl_X8_inverts_2 a0 a1 L hc hq hK hR hn ha0 ha1 FU 0 I
set_option maxRecDepth 100000 in
set_option maxHeartbeats 4000000 in
theorem wl_X8_areSame_2 {G : GT Bool} {rm : Nat} (a0 : Nat) (a1 : Nat) (I : MI) (L : ML) (hc : Cx G cX8_areSame yX8_areSame.cls (some .boolean) 0 0) (hq : RetQ G anZ (meR I L)) (hK : gK G = lK rm) (hR : gR G = lR rm) (hn : gnL G = 3) (ha0 : (lK rm)[a0]? = some (10, 10)) (ha1 : (lK rm)[a1]? = some (10, 10)) : ∀ (n : Nat) (v2_1 : Int32), WW G 2 [(0, .ref a0), (1, .ref a1), (2, .int v2_1)] [] I L (f_X8_areSame_2 a0 a1 I L n v2_1) := by
  have hN : ∀ i, Nat.blt i 3 = true → i < gnL G := fun i h => hn ▸ Nat.blt_eq.mp h
  intro n
  induction n with
  | zero => intros; exact w_none _ _ _
  | succ n ih =>
    intros v2_1
    rw [f_X8_areSame_2]
    refine w_iload_n (q := 3) (i := 2) (j := 2) hc dX8_areSame_2 rfl rfl rfl ?_
    refine w_bipush (q := 5) hc dX8_areSame_3 cb_10 rfl ?_
    refine w_icmpge (q := 8) (tgt := 25) hc dX8_areSame_5 rfl rfl ?_ ?_
    · refine w_iconst (q := 26) hc dX8_areSame_25 ci_1 rfl ?_
      exact w_ireturn (v := b2i true) hc hq dX8_areSame_26 (nar_b2i true) rfl rfl
    · refine w_aload_n (q := 9) (i := 0) (j := 0) hc dX8_areSame_8 rfl rfl rfl ?_
      refine w_iload_n (q := 10) (i := 2) (j := 2) hc dX8_areSame_9 rfl rfl rfl ?_
      refine w_iald (q := 11) hc dX8_areSame_10 (kA hK ha0) rfl ?_
      refine w_aload_n (q := 12) (i := 1) (j := 1) hc dX8_areSame_11 rfl rfl rfl ?_
      refine w_iload_n (q := 13) (i := 2) (j := 2) hc dX8_areSame_12 rfl rfl rfl ?_
      refine w_iald (q := 14) hc dX8_areSame_13 (kA hK ha1) rfl ?_
      refine w_icmpeq (q := 17) (tgt := 19) hc dX8_areSame_14 rfl rfl ?_ ?_
      · refine w_iincB (q := 22) (i := 2) (j := 2) (lv' := fun v2_2 => [(2, .int v2_2), (0, .ref a0), (1, .ref a1)]) hc dX8_areSame_19 rfl ci_1 (hN 2 rfl) (fun _ => rfl) rfl (fun v2_2 => ?_)
        refine w_goto (tgt := 2) hc dX8_areSame_22 rfl ?_
        refine w_sub [1, 2, 0] rfl ?_
        exact ih v2_2
      · refine w_iconst (q := 18) hc dX8_areSame_17 ci_0 rfl ?_
        exact w_ireturn (v := b2i false) hc hq dX8_areSame_18 (nar_b2i false) rfl rfl
set_option maxRecDepth 100000 in
set_option maxHeartbeats 4000000 in
theorem m_X8_areSame {l : Launch} {K : KT} {R : MR} {rm : Nat} {a0 : Nat} {a1 : Nat} {I : MI} {L : ML} (hK0 : K = lK rm) (hR0 : R = lR rm) (ha0 : (lK rm)[a0]? = some (10, 10)) (ha1 : (lK rm)[a1]? = some (10, 10)) : MFg l yX8_areSame cX8_areSame 3 (some .boolean) 0 0 [.ref a0, .ref a1] K R I L anZ (meR I L) (f_X8_areSame a0 a1 I L) := by
  refine mf_of (plainFor_of_name (by decide)) (Nat.le_of_ble_eq_true rfl) ?_
  intro G hc _ hK1 hR1 hn hq
  have hK := hK1.trans hK0
  have hR := hR1.trans hR0
  have hN : ∀ i, Nat.blt i 3 = true → i < gnL G := fun i h => hn ▸ Nat.blt_eq.mp h
  unfold f_X8_areSame
  show WW G 0 [(0, .ref a0), (1, .ref a1)] [] I L _
  refine w_iconst (q := 1) hc dX8_areSame_0 ci_0 rfl ?_
  refine w_istore_n (q := 2) (i := 2) (lv' := [(2, .int 0), (0, .ref a0), (1, .ref a1)]) hc dX8_areSame_1 rfl (hN 2 rfl) rfl rfl ?_
  refine w_sub [1, 2, 0] rfl ?_
  exact wl_X8_areSame_2 a0 a1 I L hc hq hK hR hn ha0 ha1 FU 0
set_option maxRecDepth 100000 in
set_option maxHeartbeats 4000000 in
theorem wl_X8_stays_2 {G : GT Bool} {rm : Nat} (a0 : Nat) (I : MI) (L : ML) (hc : Cx G cX8_stays yX8_stays.cls (some .boolean) 0 0) (hq : RetQ G anZ (meR I L)) (hK : gK G = lK rm) (hR : gR G = lR rm) (hn : gnL G = 2) (ha0 : (lK rm)[a0]? = some (10, 10)) : ∀ (n : Nat) (v1_1 : Int32), WW G 2 [(0, .ref a0), (1, .int v1_1)] [] I L (f_X8_stays_2 a0 I L n v1_1) := by
  have hN : ∀ i, Nat.blt i 2 = true → i < gnL G := fun i h => hn ▸ Nat.blt_eq.mp h
  intro n
  induction n with
  | zero => intros; exact w_none _ _ _
  | succ n ih =>
    intros v1_1
    rw [f_X8_stays_2]
    refine w_iload_n (q := 3) (i := 1) (j := 1) hc dX8_stays_2 rfl rfl rfl ?_
    refine w_bipush (q := 5) hc dX8_stays_3 cb_10 rfl ?_
    refine w_icmpge (q := 8) (tgt := 23) hc dX8_stays_5 rfl rfl ?_ ?_
    · refine w_iconst (q := 24) hc dX8_stays_23 ci_1 rfl ?_
      exact w_ireturn (v := b2i true) hc hq dX8_stays_24 (nar_b2i true) rfl rfl
    · refine w_aload_n (q := 9) (i := 0) (j := 0) hc dX8_stays_8 rfl rfl rfl ?_
      refine w_iload_n (q := 10) (i := 1) (j := 1) hc dX8_stays_9 rfl rfl rfl ?_
      refine w_iald (q := 11) hc dX8_stays_10 (kA hK ha0) rfl ?_
      refine w_iload_n (q := 12) (i := 1) (j := 1) hc dX8_stays_11 rfl rfl rfl ?_
      refine w_icmpeq (q := 15) (tgt := 17) hc dX8_stays_12 rfl rfl ?_ ?_
      · refine w_iincB (q := 20) (i := 1) (j := 1) (lv' := fun v1_2 => [(1, .int v1_2), (0, .ref a0)]) hc dX8_stays_17 rfl ci_1 (hN 1 rfl) (fun _ => rfl) rfl (fun v1_2 => ?_)
        refine w_goto (tgt := 2) hc dX8_stays_20 rfl ?_
        refine w_sub [1, 0] rfl ?_
        exact ih v1_2
      · refine w_iconst (q := 16) hc dX8_stays_15 ci_0 rfl ?_
        exact w_ireturn (v := b2i false) hc hq dX8_stays_16 (nar_b2i false) rfl rfl
set_option maxRecDepth 100000 in
set_option maxHeartbeats 4000000 in
theorem m_X8_stays {l : Launch} {K : KT} {R : MR} {rm : Nat} {a0 : Nat} {I : MI} {L : ML} (hK0 : K = lK rm) (hR0 : R = lR rm) (ha0 : (lK rm)[a0]? = some (10, 10)) : MFg l yX8_stays cX8_stays 2 (some .boolean) 0 0 [.ref a0] K R I L anZ (meR I L) (f_X8_stays a0 I L) := by
  refine mf_of (plainFor_of_name (by decide)) (Nat.le_of_ble_eq_true rfl) ?_
  intro G hc _ hK1 hR1 hn hq
  have hK := hK1.trans hK0
  have hR := hR1.trans hR0
  have hN : ∀ i, Nat.blt i 2 = true → i < gnL G := fun i h => hn ▸ Nat.blt_eq.mp h
  unfold f_X8_stays
  show WW G 0 [(0, .ref a0)] [] I L _
  refine w_iconst (q := 1) hc dX8_stays_0 ci_0 rfl ?_
  refine w_istore_n (q := 2) (i := 1) (lv' := [(1, .int 0), (0, .ref a0)]) hc dX8_stays_1 rfl (hN 1 rfl) rfl rfl ?_
  refine w_sub [1, 0] rfl ?_
  exact wl_X8_stays_2 a0 I L hc hq hK hR hn ha0 FU 0
set_option maxRecDepth 100000 in
set_option maxHeartbeats 4000000 in
theorem wl_X8_lies_18 {G : GT (Bool × Mm)} {rm : Nat} (a3 : Nat) (v1_3 : Int64) (L : ML) (hc : Cx G cX8_lies yX8_lies.cls (some .boolean) 1 21) (hq : RetQ G anZW meW) (hK : gK G = lK rm) (hR : gR G = lR rm) (hn : gnL G = 8) (ha3 : (lK rm)[a3]? = some (10, 10)) (k0 : Int32 → Int64 → MI → Option (Bool × Mm)) (hk0 : ∀ (v4_15 : Int32) (v5_16 : Int64) (I_17 : MI), WW G 70 [(0, .ref 43), (1, .long v1_3), (4, .int v4_15), (5, .long v5_16)] [] I_17 L (k0 v4_15 v5_16 I_17)) : ∀ (n : Nat) (v4_4 : Int32) (v5_5 : Int64) (v7_6 : Int32) (I_7 : MI), WW G 18 [(0, .ref 43), (1, .long v1_3), (3, .ref a3), (4, .int v4_4), (5, .long v5_5), (7, .int v7_6)] [] I_7 L (f_X8_lies_18 a3 v1_3 L k0 n v4_4 v5_5 v7_6 I_7) := by
  have hN : ∀ i, Nat.blt i 8 = true → i < gnL G := fun i h => hn ▸ Nat.blt_eq.mp h
  intro n
  induction n with
  | zero => intros; exact w_none _ _ _
  | succ n ih =>
    intros v4_4 v5_5 v7_6 I_7
    rw [f_X8_lies_18]
    refine w_iload (q := 20) (i := 7) (j := 5) hc dX8_lies_18 rfl rfl ?_
    refine w_iflt (q := 23) (tgt := 70) hc dX8_lies_20 rfl rfl ?_ ?_
    · refine w_sub [0, 1, 3, 4] rfl ?_
      exact hk0 v4_4 v5_5 I_7
    · refine w_aload_n (q := 24) (i := 3) (j := 2) hc dX8_lies_23 rfl rfl rfl ?_
      refine w_iload (q := 26) (i := 7) (j := 5) hc dX8_lies_24 rfl rfl ?_
      refine w_lload (q := 28) (i := 5) (j := 4) hc dX8_lies_26 rfl rfl ?_
      refine w_ldc2 (q := 31) hc dX8_lies_28 kl_X8_124 rfl ?_
      refine w_lrem (q := 32) hc dX8_lies_31  rfl ?_
      refine w_l2i (q := 33) hc dX8_lies_32  rfl ?_
      refine w_iast (q := 34) hc dX8_lies_33 (kA hK ha3) rfl (fun I_8 => ?_)
      refine w_iload (q := 36) (i := 4) (j := 3) hc dX8_lies_34 rfl rfl ?_
      refine w_lload (q := 38) (i := 5) (j := 4) hc dX8_lies_36 rfl rfl ?_
      refine w_lconst (q := 39) hc dX8_lies_38 cl_0 rfl ?_
      refine w_lcmp (q := 40) hc dX8_lies_39  rfl ?_
      refine w_ifge (q := 43) (tgt := 47) hc dX8_lies_40 rfl rfl ?_ ?_
      · refine w_iconst (q := 48) hc dX8_lies_47 ci_1 rfl ?_
        refine w_aload_n (q := 49) (i := 3) (j := 2) hc dX8_lies_48 rfl rfl rfl ?_
        refine w_iload (q := 51) (i := 7) (j := 5) hc dX8_lies_49 rfl rfl ?_
        refine w_iald (q := 52) hc dX8_lies_51 (kA hK ha3) rfl ?_
        refine w_ishl (q := 53) hc dX8_lies_52  rfl ?_
        refine w_ior (q := 54) hc dX8_lies_53  rfl ?_
        refine w_istoreB (q := 56) (i := 4) (lv' := fun v4_9 => [(4, .int v4_9), (0, .ref 43), (1, .long v1_3), (3, .ref a3), (5, .long v5_5), (7, .int v7_6)]) hc dX8_lies_54 (hN 4 rfl) (fun _ => rfl) rfl (fun v4_9 => ?_)
        refine w_lload (q := 58) (i := 5) (j := 4) hc dX8_lies_56 rfl rfl ?_
        refine w_ldc2 (q := 61) hc dX8_lies_58 kl_X8_124 rfl ?_
        refine w_ldiv (q := 62) hc dX8_lies_61  rfl ?_
        refine w_lstoreB (q := 64) (i := 5) (lv' := fun v5_10 => [(5, .long v5_10), (4, .int v4_9), (0, .ref 43), (1, .long v1_3), (3, .ref a3), (7, .int v7_6)]) hc dX8_lies_62 (hN 6 rfl) (fun _ => rfl) rfl (fun v5_10 => ?_)
        refine w_iincB (q := 67) (i := 7) (j := 5) (lv' := fun v7_11 => [(7, .int v7_11), (5, .long v5_10), (4, .int v4_9), (0, .ref 43), (1, .long v1_3), (3, .ref a3)]) hc dX8_lies_64 rfl ci_m1 (hN 7 rfl) (fun _ => rfl) rfl (fun v7_11 => ?_)
        refine w_goto (tgt := 18) hc dX8_lies_67 rfl ?_
        refine w_sub [3, 4, 5, 2, 1, 0] rfl ?_
        exact ih v4_9 v5_10 v7_11 I_8
      · refine w_iconst (q := 44) hc dX8_lies_43 ci_0 rfl ?_
        refine w_goto (tgt := 53) hc dX8_lies_44 rfl ?_
        refine w_ior (q := 54) hc dX8_lies_53  rfl ?_
        refine w_istoreB (q := 56) (i := 4) (lv' := fun v4_12 => [(4, .int v4_12), (0, .ref 43), (1, .long v1_3), (3, .ref a3), (5, .long v5_5), (7, .int v7_6)]) hc dX8_lies_54 (hN 4 rfl) (fun _ => rfl) rfl (fun v4_12 => ?_)
        refine w_lload (q := 58) (i := 5) (j := 4) hc dX8_lies_56 rfl rfl ?_
        refine w_ldc2 (q := 61) hc dX8_lies_58 kl_X8_124 rfl ?_
        refine w_ldiv (q := 62) hc dX8_lies_61  rfl ?_
        refine w_lstoreB (q := 64) (i := 5) (lv' := fun v5_13 => [(5, .long v5_13), (4, .int v4_12), (0, .ref 43), (1, .long v1_3), (3, .ref a3), (7, .int v7_6)]) hc dX8_lies_62 (hN 6 rfl) (fun _ => rfl) rfl (fun v5_13 => ?_)
        refine w_iincB (q := 67) (i := 7) (j := 5) (lv' := fun v7_14 => [(7, .int v7_14), (5, .long v5_13), (4, .int v4_12), (0, .ref 43), (1, .long v1_3), (3, .ref a3)]) hc dX8_lies_64 rfl ci_m1 (hN 7 rfl) (fun _ => rfl) rfl (fun v7_14 => ?_)
        refine w_goto (tgt := 18) hc dX8_lies_67 rfl ?_
        refine w_sub [3, 4, 5, 2, 1, 0] rfl ?_
        exact ih v4_12 v5_13 v7_14 I_8
set_option maxRecDepth 100000 in
set_option maxHeartbeats 4000000 in
theorem m_X8_lies {l : Launch} {K : KT} {R : MR} {rm : Nat} {a1 : Int64} {a3 : Nat} {I : MI} {L : ML} (hK0 : K = lK rm) (hR0 : R = lR rm) (ha3 : (lK rm)[a3]? = some (10, 10)) : MFg l yX8_lies cX8_lies 8 (some .boolean) 1 21 [.ref 43, .long a1, .ref a3] K R I L anZW meW (f_X8_lies a1 a3 I L) := by
  refine mf_of (plainFor_of_name (by decide)) (Nat.le_of_ble_eq_true rfl) ?_
  intro G hc _ hK1 hR1 hn hq
  have hK := hK1.trans hK0
  have hR := hR1.trans hR0
  have hN : ∀ i, Nat.blt i 8 = true → i < gnL G := fun i h => hn ▸ Nat.blt_eq.mp h
  unfold f_X8_lies
  show WW G 0 [(0, .ref 43), (1, .long a1), (3, .ref a3)] [] I L _
  refine w_aload_n (q := 1) (i := 3) (j := 2) hc dX8_lies_0 rfl rfl rfl ?_
  refine w_callS_Wv (q := 4) (st := []) (args := [.ref a3]) hc (m_X8_isHome hK hR (kB hK (kA hK ha3))) dX8_lies_1 ml_X8_96 cf_X8_isHome st_X8_isHome rfl rfl (Nat.le_of_ble_eq_true rfl) ⟨Nat.le_of_ble_eq_true rfl, Nat.le_of_ble_eq_true rfl⟩ rfl (fun q_1 => ?_)
  refine w_iconst (q := 5) hc dX8_lies_4 ci_0 rfl ?_
  refine w_istore (q := 7) (i := 4) (lv' := [(4, .int 0), (0, .ref 43), (1, .long a1), (3, .ref a3)]) hc dX8_lies_5 (hN 4 rfl) rfl rfl ?_
  refine w_lload_n (q := 8) (i := 1) (j := 2) hc dX8_lies_7 rfl rfl rfl ?_
  refine w_lstore (q := 10) (i := 5) (lv' := [(5, .long a1), (4, .int 0), (0, .ref 43), (1, .long a1), (3, .ref a3)]) hc dX8_lies_8 (hN 6 rfl) rfl rfl ?_
  refine w_aload_n (q := 11) (i := 0) (j := 2) hc dX8_lies_10 rfl rfl rfl ?_
  refine gf_X8_118 (q := 14) hc dX8_lies_11 (k_43 hK) rfl ?_
  refine w_iconst (q := 15) hc dX8_lies_14 ci_1 rfl ?_
  refine w_isub (q := 16) hc dX8_lies_15  rfl ?_
  refine w_istoreB (q := 18) (i := 7) (lv' := fun v7_2 => [(7, .int v7_2), (5, .long a1), (4, .int 0), (0, .ref 43), (1, .long a1), (3, .ref a3)]) hc dX8_lies_16 (hN 7 rfl) (fun _ => rfl) rfl (fun v7_2 => ?_)
  refine w_sub [3, 4, 5, 2, 1, 0] rfl ?_
  refine wl_X8_lies_18 a3 a1 q_1.2 hc hq hK hR hn ha3 _ ?_ FU 0 a1 v7_2 q_1.1
  intro v4_15 v5_16 I_17
  refine w_aload_n (q := 71) (i := 0) (j := 0) hc dX8_lies_70 rfl rfl rfl ?_
  refine gf_X8_118 (q := 74) hc dX8_lies_71 (k_43 hK) rfl ?_
  refine w_ifle (q := 77) (tgt := 107) hc dX8_lies_74 rfl rfl ?_ ?_
  · refine w_iconst (q := 108) hc dX8_lies_107 ci_0 rfl ?_
    exact w_ireturn (v := b2i false) hc hq dX8_lies_108 (nar_b2i false) rfl rfl
  · refine w_lload_n (q := 78) (i := 1) (j := 1) hc dX8_lies_77 rfl rfl rfl ?_
    refine w_lconst (q := 79) hc dX8_lies_78 cl_0 rfl ?_
    refine w_lcmp (q := 80) hc dX8_lies_79  rfl ?_
    refine w_iflt (q := 83) (tgt := 107) hc dX8_lies_80 rfl rfl ?_ ?_
    · refine w_iconst (q := 108) hc dX8_lies_107 ci_0 rfl ?_
      exact w_ireturn (v := b2i false) hc hq dX8_lies_108 (nar_b2i false) rfl rfl
    · refine w_lload (q := 85) (i := 5) (j := 3) hc dX8_lies_83 rfl rfl ?_
      refine w_lconst (q := 86) hc dX8_lies_85 cl_0 rfl ?_
      refine w_lcmp (q := 87) hc dX8_lies_86  rfl ?_
      refine w_ifne (q := 90) (tgt := 107) hc dX8_lies_87 rfl rfl ?_ ?_
      · refine w_iload (q := 92) (i := 4) (j := 2) hc dX8_lies_90 rfl rfl ?_
        refine w_iconst (q := 93) hc dX8_lies_92 ci_1 rfl ?_
        refine w_aload_n (q := 94) (i := 0) (j := 0) hc dX8_lies_93 rfl rfl rfl ?_
        refine gf_X8_118 (q := 97) hc dX8_lies_94 (k_43 hK) rfl ?_
        refine w_ishl (q := 98) hc dX8_lies_97  rfl ?_
        refine w_iconst (q := 99) hc dX8_lies_98 ci_1 rfl ?_
        refine w_isub (q := 100) hc dX8_lies_99  rfl ?_
        refine w_icmpne (q := 103) (tgt := 107) hc dX8_lies_100 rfl rfl ?_ ?_
        · refine w_iconst (q := 104) hc dX8_lies_103 ci_1 rfl ?_
          refine w_goto (tgt := 108) hc dX8_lies_104 rfl ?_
          exact w_ireturn (v := b2i true) hc hq dX8_lies_108 (nar_b2i true) rfl rfl
        · refine w_iconst (q := 108) hc dX8_lies_107 ci_0 rfl ?_
          exact w_ireturn (v := b2i false) hc hq dX8_lies_108 (nar_b2i false) rfl rfl
      · refine w_iconst (q := 108) hc dX8_lies_107 ci_0 rfl ?_
        exact w_ireturn (v := b2i false) hc hq dX8_lies_108 (nar_b2i false) rfl rfl
set_option maxRecDepth 100000 in
set_option maxHeartbeats 4000000 in
theorem wl_X8_told_5 {G : GT Int64} {rm : Nat} (a1 : Nat) (I : MI) (L : ML) (hc : Cx G cX8_told yX8_told.cls (some .long) 0 0) (hq : RetQ G anL (meR I L)) (hK : gK G = lK rm) (hR : gR G = lR rm) (hn : gnL G = 5) (ha1 : (lK rm)[a1]? = some (10, 10)) : ∀ (n : Nat) (v2_1 : Int64) (v4_2 : Int32), WW G 5 [(0, .ref 43), (1, .ref a1), (2, .long v2_1), (4, .int v4_2)] [] I L (f_X8_told_5 a1 I L n v2_1 v4_2) := by
  have hN : ∀ i, Nat.blt i 5 = true → i < gnL G := fun i h => hn ▸ Nat.blt_eq.mp h
  intro n
  induction n with
  | zero => intros; exact w_none _ _ _
  | succ n ih =>
    intros v2_1 v4_2
    rw [f_X8_told_5]
    refine w_iload (q := 7) (i := 4) (j := 3) hc dX8_told_5 rfl rfl ?_
    refine w_aload_n (q := 8) (i := 0) (j := 0) hc dX8_told_7 rfl rfl rfl ?_
    refine gf_X8_118 (q := 11) hc dX8_told_8 (k_43 hK) rfl ?_
    refine w_icmpge (q := 14) (tgt := 32) hc dX8_told_11 rfl rfl ?_ ?_
    · refine w_lload_n (q := 33) (i := 2) (j := 2) hc dX8_told_32 rfl rfl rfl ?_
      exact w_lreturn hc hq dX8_told_33 rfl rfl
    · refine w_ldc2 (q := 17) hc dX8_told_14 kl_X8_124 rfl ?_
      refine w_lload_n (q := 18) (i := 2) (j := 2) hc dX8_told_17 rfl rfl rfl ?_
      refine w_lmul (q := 19) hc dX8_told_18  rfl ?_
      refine w_aload_n (q := 20) (i := 1) (j := 1) hc dX8_told_19 rfl rfl rfl ?_
      refine w_iload (q := 22) (i := 4) (j := 3) hc dX8_told_20 rfl rfl ?_
      refine w_iald (q := 23) hc dX8_told_22 (kA hK ha1) rfl ?_
      refine w_i2l (q := 24) hc dX8_told_23  rfl ?_
      refine w_ladd (q := 25) hc dX8_told_24  rfl ?_
      refine w_lstore_nB (q := 26) (i := 2) (lv' := fun v2_3 => [(2, .long v2_3), (0, .ref 43), (1, .ref a1), (4, .int v4_2)]) hc dX8_told_25 rfl (hN 3 rfl) (fun _ => rfl) rfl (fun v2_3 => ?_)
      refine w_iincB (q := 29) (i := 4) (j := 3) (lv' := fun v4_4 => [(4, .int v4_4), (2, .long v2_3), (0, .ref 43), (1, .ref a1)]) hc dX8_told_26 rfl ci_1 (hN 4 rfl) (fun _ => rfl) rfl (fun v4_4 => ?_)
      refine w_goto (tgt := 5) hc dX8_told_29 rfl ?_
      refine w_sub [2, 3, 1, 0] rfl ?_
      exact ih v2_3 v4_4
set_option maxRecDepth 100000 in
set_option maxHeartbeats 4000000 in
theorem m_X8_told {l : Launch} {K : KT} {R : MR} {rm : Nat} {a1 : Nat} {I : MI} {L : ML} (hK0 : K = lK rm) (hR0 : R = lR rm) (ha1 : (lK rm)[a1]? = some (10, 10)) : MFg l yX8_told cX8_told 5 (some .long) 0 0 [.ref 43, .ref a1] K R I L anL (meR I L) (f_X8_told a1 I L) := by
  refine mf_of (plainFor_of_name (by decide)) (Nat.le_of_ble_eq_true rfl) ?_
  intro G hc _ hK1 hR1 hn hq
  have hK := hK1.trans hK0
  have hR := hR1.trans hR0
  have hN : ∀ i, Nat.blt i 5 = true → i < gnL G := fun i h => hn ▸ Nat.blt_eq.mp h
  unfold f_X8_told
  show WW G 0 [(0, .ref 43), (1, .ref a1)] [] I L _
  refine w_lconst (q := 1) hc dX8_told_0 cl_0 rfl ?_
  refine w_lstore_n (q := 2) (i := 2) (lv' := [(2, .long 0), (0, .ref 43), (1, .ref a1)]) hc dX8_told_1 rfl (hN 3 rfl) rfl rfl ?_
  refine w_iconst (q := 3) hc dX8_told_2 ci_0 rfl ?_
  refine w_istore (q := 5) (i := 4) (lv' := [(4, .int 0), (2, .long 0), (0, .ref 43), (1, .ref a1)]) hc dX8_told_3 (hN 4 rfl) rfl rfl ?_
  refine w_sub [2, 3, 1, 0] rfl ?_
  exact wl_X8_told_5 a1 I L hc hq hK hR hn ha1 FU 0 0
set_option maxRecDepth 100000 in
set_option maxHeartbeats 4000000 in
theorem m_X8_laysMove {l : Launch} {K : KT} {R : MR} {rm : Nat} {a1 : Int32} {a2 : Nat} {I : MI} {L : ML} (hK0 : K = lK rm) (hR0 : R = lR rm) (ha2 : (lK rm)[a2]? = some (10, 10)) : MFg l yX8_laysMove cX8_laysMove 3 none 1 24 [.ref 43, .int a1, .ref a2] K R I L anV meV (f_X8_laysMove a1 a2 I L) := by
  refine mf_of (plainFor_of_name (by decide)) (Nat.le_of_ble_eq_true rfl) ?_
  intro G hc _ hK1 hR1 hn hq
  have hK := hK1.trans hK0
  have hR := hR1.trans hR0
  have hN : ∀ i, Nat.blt i 3 = true → i < gnL G := fun i h => hn ▸ Nat.blt_eq.mp h
  unfold f_X8_laysMove
  show WW G 0 [(0, .ref 43), (1, .int a1), (2, .ref a2)] [] I L _
  refine w_aload_n (q := 1) (i := 0) (j := 0) hc dX8_laysMove_0 rfl rfl rfl ?_
  refine gf_X8_7 (q := 4) hc dX8_laysMove_1 (k_43 hK) (r_43_4 hR) rfl ?_
  refine w_bipush (q := 6) hc dX8_laysMove_4 cb_11 rfl ?_
  refine w_bipush (q := 8) hc dX8_laysMove_6 cb_10 rfl ?_
  refine w_iload_n (q := 9) (i := 1) (j := 1) hc dX8_laysMove_8 rfl rfl rfl ?_
  refine w_imul (q := 10) hc dX8_laysMove_9  rfl ?_
  refine w_iadd (q := 11) hc dX8_laysMove_10  rfl ?_
  refine w_aload_n (q := 12) (i := 2) (j := 2) hc dX8_laysMove_11 rfl rfl rfl ?_
  refine w_iconst (q := 13) hc dX8_laysMove_12 ci_0 rfl ?_
  refine w_callS_Wv (q := 16) (st := []) (args := [.ref 44, .int (11 + (10 * a1)), .ref a2, .int 0]) hc (m_X8_copies hK hR (kB hK (k_44 hK)) (kB hK (kA hK ha2))) dX8_laysMove_13 ml_X8_100 cf_X8_copies st_X8_copies rfl rfl (Nat.le_of_ble_eq_true rfl) ⟨Nat.le_of_ble_eq_true rfl, Nat.le_of_ble_eq_true rfl⟩ rfl (fun q_1 => ?_)
  exact w_return hc hq dX8_laysMove_16 rfl rfl
set_option maxRecDepth 100000 in
set_option maxHeartbeats 4000000 in
theorem m_X8_laysStep {l : Launch} {K : KT} {R : MR} {rm : Nat} {a1 : Int32} {a2 : Nat} {I : MI} {L : ML} (hK0 : K = lK rm) (hR0 : R = lR rm) (ha2 : (lK rm)[a2]? = some (10, 10)) : MFg l yX8_laysStep cX8_laysStep 3 none 2 46 [.ref 43, .int a1, .ref a2] K R I L anV meV (f_X8_laysStep a1 a2 I L) := by
  refine mf_of (plainFor_of_name (by decide)) (Nat.le_of_ble_eq_true rfl) ?_
  intro G hc _ hK1 hR1 hn hq
  have hK := hK1.trans hK0
  have hR := hR1.trans hR0
  have hN : ∀ i, Nat.blt i 3 = true → i < gnL G := fun i h => hn ▸ Nat.blt_eq.mp h
  unfold f_X8_laysStep
  show WW G 0 [(0, .ref 43), (1, .int a1), (2, .ref a2)] [] I L _
  refine w_aload_n (q := 1) (i := 0) (j := 0) hc dX8_laysStep_0 rfl rfl rfl ?_
  refine w_iload_n (q := 2) (i := 1) (j := 1) hc dX8_laysStep_1 rfl rfl rfl ?_
  refine w_iconst (q := 3) hc dX8_laysStep_2 ci_2 rfl ?_
  refine w_idiv (q := 4) hc dX8_laysStep_3  rfl ?_
  refine w_aload_n (q := 5) (i := 2) (j := 2) hc dX8_laysStep_4 rfl rfl rfl ?_
  refine w_callV_Wv (q := 8) (st := []) (args := [.int (a1 / 2), .ref a2]) (p := 43) hc (m_X8_laysMove hK hR (kB hK (kA hK ha2))) dX8_laysStep_5 ml_X8_126 cf_X8_laysMove iv_X8_laysMove (k_43 hK) (C := RX8) (T := TX8) (N := 45) rfl rfl (Nat.lt_of_succ_le (Nat.le_of_ble_eq_true rfl)) rfl rfl (Nat.le_of_ble_eq_true rfl) ⟨Nat.le_of_ble_eq_true rfl, Nat.le_of_ble_eq_true rfl⟩ rfl (fun q_1 => ?_)
  refine w_iload_n (q := 9) (i := 1) (j := 1) hc dX8_laysStep_8 rfl rfl rfl ?_
  refine w_iconst (q := 10) hc dX8_laysStep_9 ci_2 rfl ?_
  refine w_irem (q := 11) hc dX8_laysStep_10  rfl ?_
  refine w_ifne (q := 14) (tgt := 15) hc dX8_laysStep_11 rfl rfl ?_ ?_
  · exact w_return hc hq dX8_laysStep_14 rfl rfl
  · refine w_aload_n (q := 16) (i := 2) (j := 2) hc dX8_laysStep_15 rfl rfl rfl ?_
    refine w_iconst (q := 17) hc dX8_laysStep_16 ci_0 rfl ?_
    refine w_aload_n (q := 18) (i := 0) (j := 0) hc dX8_laysStep_17 rfl rfl rfl ?_
    refine gf_X8_31 (q := 21) hc dX8_laysStep_18 (k_43 hK) (r_43_11 hR) rfl ?_
    refine w_iconst (q := 22) hc dX8_laysStep_21 ci_0 rfl ?_
    refine w_callS_Wv (q := 25) (st := []) (args := [.ref a2, .int 0, .ref 51, .int 0]) hc (m_X8_copies hK hR (kB hK (kA hK ha2)) (kB hK (k_51 hK))) dX8_laysStep_22 ml_X8_100 cf_X8_copies st_X8_copies rfl rfl (Nat.le_of_ble_eq_true rfl) ⟨Nat.le_of_ble_eq_true rfl, Nat.le_of_ble_eq_true rfl⟩ rfl (fun q_2 => ?_)
    refine w_aload_n (q := 26) (i := 0) (j := 0) hc dX8_laysStep_25 rfl rfl rfl ?_
    refine gf_X8_31 (q := 29) hc dX8_laysStep_26 (k_43 hK) (r_43_11 hR) rfl ?_
    refine w_aload_n (q := 30) (i := 2) (j := 2) hc dX8_laysStep_29 rfl rfl rfl ?_
    refine w_callS_Wv (q := 33) (st := []) (args := [.ref 51, .ref a2]) hc (m_X8_inverts hK hR (kB hK (k_51 hK)) (kB hK (kA hK ha2))) dX8_laysStep_30 ml_X8_130 cf_X8_inverts st_X8_inverts rfl rfl (Nat.le_of_ble_eq_true rfl) ⟨Nat.le_of_ble_eq_true rfl, Nat.le_of_ble_eq_true rfl⟩ rfl (fun q_3 => ?_)
    exact w_return hc hq dX8_laysStep_33 rfl rfl
set_option maxRecDepth 100000 in
set_option maxHeartbeats 4000000 in
theorem m_X8_laysStand {l : Launch} {K : KT} {R : MR} {rm : Nat} {a1 : Nat} {I : MI} {L : ML} (hK0 : K = lK rm) (hR0 : R = lR rm) (ha1 : (lK rm)[a1]? = some (10, 10)) : MFg l yX8_laysStand cX8_laysStand 2 none 1 24 [.ref 43, .ref a1] K R I L anV meV (f_X8_laysStand a1 I L) := by
  refine mf_of (plainFor_of_name (by decide)) (Nat.le_of_ble_eq_true rfl) ?_
  intro G hc _ hK1 hR1 hn hq
  have hK := hK1.trans hK0
  have hR := hR1.trans hR0
  have hN : ∀ i, Nat.blt i 2 = true → i < gnL G := fun i h => hn ▸ Nat.blt_eq.mp h
  unfold f_X8_laysStand
  show WW G 0 [(0, .ref 43), (1, .ref a1)] [] I L _
  refine w_aload_n (q := 1) (i := 0) (j := 0) hc dX8_laysStand_0 rfl rfl rfl ?_
  refine gf_X8_7 (q := 4) hc dX8_laysStand_1 (k_43 hK) (r_43_4 hR) rfl ?_
  refine w_iconst (q := 5) hc dX8_laysStand_4 ci_1 rfl ?_
  refine w_aload_n (q := 6) (i := 1) (j := 1) hc dX8_laysStand_5 rfl rfl rfl ?_
  refine w_iconst (q := 7) hc dX8_laysStand_6 ci_0 rfl ?_
  refine w_callS_Wv (q := 10) (st := []) (args := [.ref 44, .int 1, .ref a1, .int 0]) hc (m_X8_copies hK hR (kB hK (k_44 hK)) (kB hK (kA hK ha1))) dX8_laysStand_7 ml_X8_100 cf_X8_copies st_X8_copies rfl rfl (Nat.le_of_ble_eq_true rfl) ⟨Nat.le_of_ble_eq_true rfl, Nat.le_of_ble_eq_true rfl⟩ rfl (fun q_1 => ?_)
  exact w_return hc hq dX8_laysStand_10 rfl rfl
set_option maxRecDepth 100000 in
set_option maxHeartbeats 4000000 in
theorem wl_X8_clears_53 {G : GT Mm} {rm : Nat} (v1_11 : Int32) (v2_12 : Int32) (L : ML) (hc : Cx G cX8_clears yX8_clears.cls none 0 0) (hq : RetQ G anV meV) (hK : gK G = lK rm) (hR : gR G = lR rm) (hn : gnL G = 4) (k0 : MI → Option Mm) (hk0 : ∀ (I_17 : MI), WW G 88 [(0, .ref 43), (1, .int v1_11), (2, .int v2_12)] [] I_17 L (k0 I_17)) : ∀ (n : Nat) (v3_13 : Int32) (I_14 : MI), WW G 53 [(0, .ref 43), (1, .int v1_11), (2, .int v2_12), (3, .int v3_13)] [] I_14 L (f_X8_clears_53 v1_11 v2_12 L k0 n v3_13 I_14) := by
  have hN : ∀ i, Nat.blt i 4 = true → i < gnL G := fun i h => hn ▸ Nat.blt_eq.mp h
  intro n
  induction n with
  | zero => intros; exact w_none _ _ _
  | succ n ih =>
    intros v3_13 I_14
    rw [f_X8_clears_53]
    refine w_iload_n (q := 54) (i := 3) (j := 3) hc dX8_clears_53 rfl rfl rfl ?_
    refine w_bipush (q := 56) hc dX8_clears_54 cb_10 rfl ?_
    refine w_icmpge (q := 59) (tgt := 88) hc dX8_clears_56 rfl rfl ?_ ?_
    · refine w_sub [0, 1, 2] rfl ?_
      exact hk0 I_14
    · refine w_aload_n (q := 60) (i := 0) (j := 0) hc dX8_clears_59 rfl rfl rfl ?_
      refine gf_X8_38 (q := 63) hc dX8_clears_60 (k_43 hK) (r_43_13 hR) rfl ?_
      refine w_sipush (q := 66) hc dX8_clears_63 cs_1000 rfl ?_
      refine w_iload_n (q := 67) (i := 1) (j := 1) hc dX8_clears_66 rfl rfl rfl ?_
      refine w_imul (q := 68) hc dX8_clears_67  rfl ?_
      refine w_bipush (q := 70) hc dX8_clears_68 cb_100 rfl ?_
      refine w_iload_n (q := 71) (i := 2) (j := 2) hc dX8_clears_70 rfl rfl rfl ?_
      refine w_imul (q := 72) hc dX8_clears_71  rfl ?_
      refine w_iadd (q := 73) hc dX8_clears_72  rfl ?_
      refine w_bipush (q := 75) hc dX8_clears_73 cb_10 rfl ?_
      refine w_iload_n (q := 76) (i := 2) (j := 2) hc dX8_clears_75 rfl rfl rfl ?_
      refine w_imul (q := 77) hc dX8_clears_76  rfl ?_
      refine w_iadd (q := 78) hc dX8_clears_77  rfl ?_
      refine w_iload_n (q := 79) (i := 3) (j := 3) hc dX8_clears_78 rfl rfl rfl ?_
      refine w_iadd (q := 80) hc dX8_clears_79  rfl ?_
      refine w_iload_n (q := 81) (i := 3) (j := 3) hc dX8_clears_80 rfl rfl rfl ?_
      refine w_iast (q := 82) hc dX8_clears_81 (k_53 hK) rfl (fun I_15 => ?_)
      refine w_iincB (q := 85) (i := 3) (j := 3) (lv' := fun v3_16 => [(3, .int v3_16), (0, .ref 43), (1, .int v1_11), (2, .int v2_12)]) hc dX8_clears_82 rfl ci_1 (hN 3 rfl) (fun _ => rfl) rfl (fun v3_16 => ?_)
      refine w_goto (tgt := 53) hc dX8_clears_85 rfl ?_
      refine w_sub [1, 2, 3, 0] rfl ?_
      exact ih v3_16 I_15
set_option maxRecDepth 100000 in
set_option maxHeartbeats 4000000 in
theorem wl_X8_clears_28 {G : GT Mm} {rm : Nat} (v1_7 : Int32) (L : ML) (hc : Cx G cX8_clears yX8_clears.cls none 0 0) (hq : RetQ G anV meV) (hK : gK G = lK rm) (hR : gR G = lR rm) (hn : gnL G = 4) : ∀ (n : Nat) (v2_8 : Int32) (I_9 : MI), WW G 28 [(0, .ref 43), (1, .int v1_7), (2, .int v2_8)] [] I_9 L (f_X8_clears_28 v1_7 L n v2_8 I_9) := by
  have hN : ∀ i, Nat.blt i 4 = true → i < gnL G := fun i h => hn ▸ Nat.blt_eq.mp h
  intro n
  induction n with
  | zero => intros; exact w_none _ _ _
  | succ n ih =>
    intros v2_8 I_9
    rw [f_X8_clears_28]
    refine w_iload_n (q := 29) (i := 2) (j := 2) hc dX8_clears_28 rfl rfl rfl ?_
    refine w_bipush (q := 31) hc dX8_clears_29 cb_10 rfl ?_
    refine w_icmpge (q := 34) (tgt := 94) hc dX8_clears_31 rfl rfl ?_ ?_
    · exact w_return hc hq dX8_clears_94 rfl rfl
    · refine w_aload_n (q := 35) (i := 0) (j := 0) hc dX8_clears_34 rfl rfl rfl ?_
      refine gf_X8_34 (q := 38) hc dX8_clears_35 (k_43 hK) (r_43_12 hR) rfl ?_
      refine w_bipush (q := 40) hc dX8_clears_38 cb_100 rfl ?_
      refine w_iload_n (q := 41) (i := 1) (j := 1) hc dX8_clears_40 rfl rfl rfl ?_
      refine w_imul (q := 42) hc dX8_clears_41  rfl ?_
      refine w_bipush (q := 44) hc dX8_clears_42 cb_10 rfl ?_
      refine w_iload_n (q := 45) (i := 2) (j := 2) hc dX8_clears_44 rfl rfl rfl ?_
      refine w_imul (q := 46) hc dX8_clears_45  rfl ?_
      refine w_iadd (q := 47) hc dX8_clears_46  rfl ?_
      refine w_iload_n (q := 48) (i := 2) (j := 2) hc dX8_clears_47 rfl rfl rfl ?_
      refine w_iadd (q := 49) hc dX8_clears_48  rfl ?_
      refine w_iconst (q := 50) hc dX8_clears_49 ci_1 rfl ?_
      refine w_zast (q := 51) hc dX8_clears_50 (k_52 hK) rfl (fun I_10 => ?_)
      refine w_iconst (q := 52) hc dX8_clears_51 ci_0 rfl ?_
      refine w_istore_n (q := 53) (i := 3) (lv' := [(3, .int 0), (0, .ref 43), (1, .int v1_7), (2, .int v2_8)]) hc dX8_clears_52 rfl (hN 3 rfl) rfl rfl ?_
      refine w_sub [1, 2, 3, 0] rfl ?_
      refine wl_X8_clears_53 v1_7 v2_8 L hc hq hK hR hn _ ?_ FU 0 I_10
      intro I_17
      refine w_iincB (q := 91) (i := 2) (j := 2) (lv' := fun v2_18 => [(2, .int v2_18), (0, .ref 43), (1, .int v1_7)]) hc dX8_clears_88 rfl ci_1 (hN 2 rfl) (fun _ => rfl) rfl (fun v2_18 => ?_)
      refine w_goto (tgt := 28) hc dX8_clears_91 rfl ?_
      refine w_sub [1, 2, 0] rfl ?_
      exact ih v2_18 I_17
set_option maxRecDepth 100000 in
set_option maxHeartbeats 4000000 in
theorem wl_X8_clears_2 {G : GT Mm} {rm : Nat} (v1_1 : Int32) (L : ML) (hc : Cx G cX8_clears yX8_clears.cls none 0 0) (hq : RetQ G anV meV) (hK : gK G = lK rm) (hR : gR G = lR rm) (hn : gnL G = 4) (k0 : MI → Option Mm) (hk0 : ∀ (I_6 : MI), WW G 26 [(0, .ref 43), (1, .int v1_1)] [] I_6 L (k0 I_6)) : ∀ (n : Nat) (v2_2 : Int32) (I_3 : MI), WW G 2 [(0, .ref 43), (1, .int v1_1), (2, .int v2_2)] [] I_3 L (f_X8_clears_2 v1_1 L k0 n v2_2 I_3) := by
  have hN : ∀ i, Nat.blt i 4 = true → i < gnL G := fun i h => hn ▸ Nat.blt_eq.mp h
  intro n
  induction n with
  | zero => intros; exact w_none _ _ _
  | succ n ih =>
    intros v2_2 I_3
    rw [f_X8_clears_2]
    refine w_iload_n (q := 3) (i := 2) (j := 2) hc dX8_clears_2 rfl rfl rfl ?_
    refine w_bipush (q := 5) hc dX8_clears_3 cb_100 rfl ?_
    refine w_icmpge (q := 8) (tgt := 26) hc dX8_clears_5 rfl rfl ?_ ?_
    · refine w_sub [0, 1] rfl ?_
      exact hk0 I_3
    · refine w_aload_n (q := 9) (i := 0) (j := 0) hc dX8_clears_8 rfl rfl rfl ?_
      refine gf_X8_34 (q := 12) hc dX8_clears_9 (k_43 hK) (r_43_12 hR) rfl ?_
      refine w_bipush (q := 14) hc dX8_clears_12 cb_100 rfl ?_
      refine w_iload_n (q := 15) (i := 1) (j := 1) hc dX8_clears_14 rfl rfl rfl ?_
      refine w_imul (q := 16) hc dX8_clears_15  rfl ?_
      refine w_iload_n (q := 17) (i := 2) (j := 2) hc dX8_clears_16 rfl rfl rfl ?_
      refine w_iadd (q := 18) hc dX8_clears_17  rfl ?_
      refine w_iconst (q := 19) hc dX8_clears_18 ci_0 rfl ?_
      refine w_zast (q := 20) hc dX8_clears_19 (k_52 hK) rfl (fun I_4 => ?_)
      refine w_iincB (q := 23) (i := 2) (j := 2) (lv' := fun v2_5 => [(2, .int v2_5), (0, .ref 43), (1, .int v1_1)]) hc dX8_clears_20 rfl ci_1 (hN 2 rfl) (fun _ => rfl) rfl (fun v2_5 => ?_)
      refine w_goto (tgt := 2) hc dX8_clears_23 rfl ?_
      refine w_sub [1, 2, 0] rfl ?_
      exact ih v2_5 I_4
set_option maxRecDepth 100000 in
set_option maxHeartbeats 4000000 in
theorem m_X8_clears {l : Launch} {K : KT} {R : MR} {rm : Nat} {a1 : Int32} {I : MI} {L : ML} (hK0 : K = lK rm) (hR0 : R = lR rm) : MFg l yX8_clears cX8_clears 4 none 0 0 [.ref 43, .int a1] K R I L anV meV (f_X8_clears a1 I L) := by
  refine mf_of (plainFor_of_name (by decide)) (Nat.le_of_ble_eq_true rfl) ?_
  intro G hc _ hK1 hR1 hn hq
  have hK := hK1.trans hK0
  have hR := hR1.trans hR0
  have hN : ∀ i, Nat.blt i 4 = true → i < gnL G := fun i h => hn ▸ Nat.blt_eq.mp h
  unfold f_X8_clears
  show WW G 0 [(0, .ref 43), (1, .int a1)] [] I L _
  refine w_iconst (q := 1) hc dX8_clears_0 ci_0 rfl ?_
  refine w_istore_n (q := 2) (i := 2) (lv' := [(2, .int 0), (0, .ref 43), (1, .int a1)]) hc dX8_clears_1 rfl (hN 2 rfl) rfl rfl ?_
  refine w_sub [1, 2, 0] rfl ?_
  refine wl_X8_clears_2 a1 L hc hq hK hR hn _ ?_ FU 0 I
  intro I_6
  refine w_iconst (q := 27) hc dX8_clears_26 ci_0 rfl ?_
  refine w_istore_n (q := 28) (i := 2) (lv' := [(2, .int 0), (0, .ref 43), (1, .int a1)]) hc dX8_clears_27 rfl (hN 2 rfl) rfl rfl ?_
  refine w_sub [1, 2, 0] rfl ?_
  exact wl_X8_clears_28 a1 L hc hq hK hR hn FU 0 I_6
set_option maxRecDepth 100000 in
set_option maxHeartbeats 4000000 in
theorem m_X8_laysCell {l : Launch} {K : KT} {R : MR} {rm : Nat} {a1 : Int32} {a2 : Int32} {a3 : Int32} {a4 : Nat} {I : MI} {L : ML} (hK0 : K = lK rm) (hR0 : R = lR rm) (ha4 : (lK rm)[a4]? = some (10, 10)) : MFg l yX8_laysCell cX8_laysCell 5 none 1 24 [.ref 43, .int a1, .int a2, .int a3, .ref a4] K R I L anV meV (f_X8_laysCell a1 a2 a3 a4 I L) := by
  refine mf_of (plainFor_of_name (by decide)) (Nat.le_of_ble_eq_true rfl) ?_
  intro G hc _ hK1 hR1 hn hq
  have hK := hK1.trans hK0
  have hR := hR1.trans hR0
  have hN : ∀ i, Nat.blt i 5 = true → i < gnL G := fun i h => hn ▸ Nat.blt_eq.mp h
  unfold f_X8_laysCell
  show WW G 0 [(0, .ref 43), (1, .int a1), (2, .int a2), (3, .int a3), (4, .ref a4)] [] I L _
  refine w_aload_n (q := 1) (i := 0) (j := 0) hc dX8_laysCell_0 rfl rfl rfl ?_
  refine gf_X8_38 (q := 4) hc dX8_laysCell_1 (k_43 hK) (r_43_13 hR) rfl ?_
  refine w_sipush (q := 7) hc dX8_laysCell_4 cs_1000 rfl ?_
  refine w_iload_n (q := 8) (i := 1) (j := 1) hc dX8_laysCell_7 rfl rfl rfl ?_
  refine w_imul (q := 9) hc dX8_laysCell_8  rfl ?_
  refine w_bipush (q := 11) hc dX8_laysCell_9 cb_100 rfl ?_
  refine w_iload_n (q := 12) (i := 2) (j := 2) hc dX8_laysCell_11 rfl rfl rfl ?_
  refine w_imul (q := 13) hc dX8_laysCell_12  rfl ?_
  refine w_iadd (q := 14) hc dX8_laysCell_13  rfl ?_
  refine w_bipush (q := 16) hc dX8_laysCell_14 cb_10 rfl ?_
  refine w_iload_n (q := 17) (i := 3) (j := 3) hc dX8_laysCell_16 rfl rfl rfl ?_
  refine w_imul (q := 18) hc dX8_laysCell_17  rfl ?_
  refine w_iadd (q := 19) hc dX8_laysCell_18  rfl ?_
  refine w_aload (q := 21) (i := 4) (j := 4) hc dX8_laysCell_19 rfl rfl ?_
  refine w_iconst (q := 22) hc dX8_laysCell_21 ci_0 rfl ?_
  refine w_callS_Wv (q := 25) (st := []) (args := [.ref 53, .int (((1000 * a1) + (100 * a2)) + (10 * a3)), .ref a4, .int 0]) hc (m_X8_copies hK hR (kB hK (k_53 hK)) (kB hK (kA hK ha4))) dX8_laysCell_22 ml_X8_100 cf_X8_copies st_X8_copies rfl rfl (Nat.le_of_ble_eq_true rfl) ⟨Nat.le_of_ble_eq_true rfl, Nat.le_of_ble_eq_true rfl⟩ rfl (fun q_1 => ?_)
  exact w_return hc hq dX8_laysCell_25 rfl rfl
set_option maxRecDepth 100000 in
set_option maxHeartbeats 4000000 in
theorem wl_X8_sifts_12 {G : GT (Int32 × Mm)} {rm : Nat} (a2 : Nat) (v1_2 : Int32) (hc : Cx G cX8_sifts yX8_sifts.cls (some .int) 2 48) (hq : RetQ G anIW meW) (hK : gK G = lK rm) (hR : gR G = lR rm) (hn : gnL G = 5) (ha2 : (lK rm)[a2]? = some (10, 10)) : ∀ (n : Nat) (v3_3 : Int32) (I_4 : MI) (L_5 : ML), WW G 12 [(0, .ref 43), (1, .int v1_2), (3, .int v3_3)] [] I_4 L_5 (f_X8_sifts_12 a2 v1_2 n v3_3 I_4 L_5) := by
  have hN : ∀ i, Nat.blt i 5 = true → i < gnL G := fun i h => hn ▸ Nat.blt_eq.mp h
  intro n
  induction n with
  | zero => intros; exact w_none _ _ _
  | succ n ih =>
    intros v3_3 I_4 L_5
    rw [f_X8_sifts_12]
    refine w_iload_n (q := 13) (i := 3) (j := 2) hc dX8_sifts_12 rfl rfl rfl ?_
    refine w_bipush (q := 15) hc dX8_sifts_13 cb_10 rfl ?_
    refine w_icmpge (q := 18) (tgt := 114) hc dX8_sifts_15 rfl rfl ?_ ?_
    · refine w_bipush (q := 116) hc dX8_sifts_114 cb_10 rfl ?_
      exact w_ireturn (v := 10) hc hq dX8_sifts_116 rfl rfl rfl
    · refine w_aload_n (q := 19) (i := 0) (j := 0) hc dX8_sifts_18 rfl rfl rfl ?_
      refine gf_X8_47 (q := 22) hc dX8_sifts_19 (k_43 hK) (r_43_16 hR) rfl ?_
      refine w_iload_n (q := 23) (i := 3) (j := 2) hc dX8_sifts_22 rfl rfl rfl ?_
      refine w_iald (q := 24) hc dX8_sifts_23 (k_56 hK) rfl ?_
      refine w_istoreB (q := 26) (i := 4) (lv' := fun v4_6 => [(4, .int v4_6), (0, .ref 43), (1, .int v1_2), (3, .int v3_3)]) hc dX8_sifts_24 (hN 4 rfl) (fun _ => rfl) rfl (fun v4_6 => ?_)
      refine w_aload_n (q := 27) (i := 0) (j := 1) hc dX8_sifts_26 rfl rfl rfl ?_
      refine gf_X8_34 (q := 30) hc dX8_sifts_27 (k_43 hK) (r_43_12 hR) rfl ?_
      refine w_bipush (q := 32) hc dX8_sifts_30 cb_100 rfl ?_
      refine w_iload_n (q := 33) (i := 1) (j := 2) hc dX8_sifts_32 rfl rfl rfl ?_
      refine w_imul (q := 34) hc dX8_sifts_33  rfl ?_
      refine w_bipush (q := 36) hc dX8_sifts_34 cb_10 rfl ?_
      refine w_iload_n (q := 37) (i := 3) (j := 3) hc dX8_sifts_36 rfl rfl rfl ?_
      refine w_imul (q := 38) hc dX8_sifts_37  rfl ?_
      refine w_iadd (q := 39) hc dX8_sifts_38  rfl ?_
      refine w_iload (q := 41) (i := 4) (j := 0) hc dX8_sifts_39 rfl rfl ?_
      refine w_iadd (q := 42) hc dX8_sifts_41  rfl ?_
      refine w_zald (q := 43) hc dX8_sifts_42 (k_52 hK) rfl ?_
      refine w_ifne (q := 46) (tgt := 48) hc dX8_sifts_43 rfl rfl ?_ ?_
      · refine w_iload_n (q := 47) (i := 3) (j := 3) hc dX8_sifts_46 rfl rfl rfl ?_
        exact w_ireturn (v := v3_3) hc hq dX8_sifts_47 rfl rfl rfl
      · refine w_iload (q := 50) (i := 4) (j := 0) hc dX8_sifts_48 rfl rfl ?_
        refine w_iload_n (q := 51) (i := 3) (j := 3) hc dX8_sifts_50 rfl rfl rfl ?_
        refine w_icmpne (q := 54) (tgt := 57) hc dX8_sifts_51 rfl rfl ?_ ?_
        · refine w_goto (tgt := 108) hc dX8_sifts_54 rfl ?_
          refine w_iincB (q := 111) (i := 3) (j := 3) (lv' := fun v3_12 => [(3, .int v3_12), (4, .int v4_6), (0, .ref 43), (1, .int v1_2)]) hc dX8_sifts_108 rfl ci_1 (hN 3 rfl) (fun _ => rfl) rfl (fun v3_12 => ?_)
          refine w_goto (tgt := 12) hc dX8_sifts_111 rfl ?_
          refine w_sub [2, 3, 0] rfl ?_
          exact ih v3_12 I_4 L_5
        · refine w_aload_n (q := 58) (i := 0) (j := 1) hc dX8_sifts_57 rfl rfl rfl ?_
          refine w_iload_n (q := 59) (i := 1) (j := 2) hc dX8_sifts_58 rfl rfl rfl ?_
          refine w_iload_n (q := 60) (i := 3) (j := 3) hc dX8_sifts_59 rfl rfl rfl ?_
          refine w_iload (q := 62) (i := 4) (j := 0) hc dX8_sifts_60 rfl rfl ?_
          refine w_aload_n (q := 63) (i := 0) (j := 1) hc dX8_sifts_62 rfl rfl rfl ?_
          refine gf_X8_41 (q := 66) hc dX8_sifts_63 (k_43 hK) (r_43_14 hR) rfl ?_
          refine w_callV_Wv (q := 69) (st := []) (args := [.int v1_2, .int v3_3, .int v4_6, .ref 54]) (p := 43) hc (m_X8_laysCell hK hR (kB hK (k_54 hK))) dX8_sifts_66 ml_X8_134 cf_X8_laysCell iv_X8_laysCell (k_43 hK) (C := RX8) (T := TX8) (N := 45) rfl rfl (Nat.lt_of_succ_le (Nat.le_of_ble_eq_true rfl)) rfl rfl (Nat.le_of_ble_eq_true rfl) ⟨Nat.le_of_ble_eq_true rfl, Nat.le_of_ble_eq_true rfl⟩ rfl (fun q_7 => ?_)
          refine w_aload_n (q := 70) (i := 0) (j := 1) hc dX8_sifts_69 rfl rfl rfl ?_
          refine gf_X8_41 (q := 73) hc dX8_sifts_70 (k_43 hK) (r_43_14 hR) rfl ?_
          refine w_aload_n (q := 74) (i := 0) (j := 1) hc dX8_sifts_73 rfl rfl rfl ?_
          refine gf_X8_44 (q := 77) hc dX8_sifts_74 (k_43 hK) (r_43_15 hR) rfl ?_
          refine w_callS_Wv (q := 80) (st := []) (args := [.ref 54, .ref 55]) hc (m_X8_inverts hK hR (kB hK (k_54 hK)) (kB hK (k_55 hK))) dX8_sifts_77 ml_X8_130 cf_X8_inverts st_X8_inverts rfl rfl (Nat.le_of_ble_eq_true rfl) ⟨Nat.le_of_ble_eq_true rfl, Nat.le_of_ble_eq_true rfl⟩ rfl (fun q_8 => ?_)
          refine w_aload_n (q := 81) (i := 0) (j := 1) hc dX8_sifts_80 rfl rfl rfl ?_
          refine gf_X8_47 (q := 84) hc dX8_sifts_81 (k_43 hK) (r_43_16 hR) rfl ?_
          refine w_iconst (q := 85) hc dX8_sifts_84 ci_0 rfl ?_
          refine w_aload_n (q := 86) (i := 0) (j := 1) hc dX8_sifts_85 rfl rfl rfl ?_
          refine gf_X8_41 (q := 89) hc dX8_sifts_86 (k_43 hK) (r_43_14 hR) rfl ?_
          refine w_iconst (q := 90) hc dX8_sifts_89 ci_0 rfl ?_
          refine w_callS_Wv (q := 93) (st := []) (args := [.ref 56, .int 0, .ref 54, .int 0]) hc (m_X8_copies hK hR (kB hK (k_56 hK)) (kB hK (k_54 hK))) dX8_sifts_90 ml_X8_100 cf_X8_copies st_X8_copies rfl rfl (Nat.le_of_ble_eq_true rfl) ⟨Nat.le_of_ble_eq_true rfl, Nat.le_of_ble_eq_true rfl⟩ rfl (fun q_9 => ?_)
          refine w_aload_n (q := 94) (i := 0) (j := 1) hc dX8_sifts_93 rfl rfl rfl ?_
          refine gf_X8_41 (q := 97) hc dX8_sifts_94 (k_43 hK) (r_43_14 hR) rfl ?_
          refine w_aload_n (q := 98) (i := 0) (j := 1) hc dX8_sifts_97 rfl rfl rfl ?_
          refine gf_X8_44 (q := 101) hc dX8_sifts_98 (k_43 hK) (r_43_15 hR) rfl ?_
          refine w_aload_n (q := 102) (i := 0) (j := 1) hc dX8_sifts_101 rfl rfl rfl ?_
          refine gf_X8_47 (q := 105) hc dX8_sifts_102 (k_43 hK) (r_43_16 hR) rfl ?_
          refine w_callS_Wv (q := 108) (st := []) (args := [.ref 54, .ref 55, .ref 56]) hc (m_X8_makes hK hR (kB hK (k_54 hK)) (kB hK (k_55 hK)) (kB hK (k_56 hK))) dX8_sifts_105 ml_X8_138 cf_X8_makes st_X8_makes rfl rfl (Nat.le_of_ble_eq_true rfl) ⟨Nat.le_of_ble_eq_true rfl, Nat.le_of_ble_eq_true rfl⟩ rfl (fun q_10 => ?_)
          refine w_iincB (q := 111) (i := 3) (j := 3) (lv' := fun v3_11 => [(3, .int v3_11), (4, .int v4_6), (0, .ref 43), (1, .int v1_2)]) hc dX8_sifts_108 rfl ci_1 (hN 3 rfl) (fun _ => rfl) rfl (fun v3_11 => ?_)
          refine w_goto (tgt := 12) hc dX8_sifts_111 rfl ?_
          refine w_sub [2, 3, 0] rfl ?_
          exact ih v3_11 q_10.1 q_10.2
set_option maxRecDepth 100000 in
set_option maxHeartbeats 4000000 in
theorem m_X8_sifts {l : Launch} {K : KT} {R : MR} {rm : Nat} {a1 : Int32} {a2 : Nat} {I : MI} {L : ML} (hK0 : K = lK rm) (hR0 : R = lR rm) (ha2 : (lK rm)[a2]? = some (10, 10)) : MFg l yX8_sifts cX8_sifts 5 (some .int) 2 48 [.ref 43, .int a1, .ref a2] K R I L anIW meW (f_X8_sifts a1 a2 I L) := by
  refine mf_of (plainFor_of_name (by decide)) (Nat.le_of_ble_eq_true rfl) ?_
  intro G hc _ hK1 hR1 hn hq
  have hK := hK1.trans hK0
  have hR := hR1.trans hR0
  have hN : ∀ i, Nat.blt i 5 = true → i < gnL G := fun i h => hn ▸ Nat.blt_eq.mp h
  unfold f_X8_sifts
  show WW G 0 [(0, .ref 43), (1, .int a1), (2, .ref a2)] [] I L _
  refine w_aload_n (q := 1) (i := 2) (j := 2) hc dX8_sifts_0 rfl rfl rfl ?_
  refine w_iconst (q := 2) hc dX8_sifts_1 ci_0 rfl ?_
  refine w_aload_n (q := 3) (i := 0) (j := 0) hc dX8_sifts_2 rfl rfl rfl ?_
  refine gf_X8_47 (q := 6) hc dX8_sifts_3 (k_43 hK) (r_43_16 hR) rfl ?_
  refine w_iconst (q := 7) hc dX8_sifts_6 ci_0 rfl ?_
  refine w_callS_Wv (q := 10) (st := []) (args := [.ref a2, .int 0, .ref 56, .int 0]) hc (m_X8_copies hK hR (kB hK (kA hK ha2)) (kB hK (k_56 hK))) dX8_sifts_7 ml_X8_100 cf_X8_copies st_X8_copies rfl rfl (Nat.le_of_ble_eq_true rfl) ⟨Nat.le_of_ble_eq_true rfl, Nat.le_of_ble_eq_true rfl⟩ rfl (fun q_1 => ?_)
  refine w_iconst (q := 11) hc dX8_sifts_10 ci_0 rfl ?_
  refine w_istore_n (q := 12) (i := 3) (lv' := [(3, .int 0), (0, .ref 43), (1, .int a1), (2, .ref a2)]) hc dX8_sifts_11 rfl (hN 3 rfl) rfl rfl ?_
  refine w_sub [1, 2, 0] rfl ?_
  exact wl_X8_sifts_12 a2 a1 hc hq hK hR hn ha2 FU 0 q_1.1 q_1.2
set_option maxRecDepth 100000 in
set_option maxHeartbeats 4000000 in
theorem m_X8_isMember {l : Launch} {K : KT} {R : MR} {rm : Nat} {a1 : Int32} {a2 : Nat} {I : MI} {L : ML} (hK0 : K = lK rm) (hR0 : R = lR rm) (ha2 : (lK rm)[a2]? = some (10, 10)) : MFg l yX8_isMember cX8_isMember 3 (some .boolean) 3 72 [.ref 43, .int a1, .ref a2] K R I L anZW meW (f_X8_isMember a1 a2 I L) := by
  refine mf_of (plainFor_of_name (by decide)) (Nat.le_of_ble_eq_true rfl) ?_
  intro G hc _ hK1 hR1 hn hq
  have hK := hK1.trans hK0
  have hR := hR1.trans hR0
  have hN : ∀ i, Nat.blt i 3 = true → i < gnL G := fun i h => hn ▸ Nat.blt_eq.mp h
  unfold f_X8_isMember
  show WW G 0 [(0, .ref 43), (1, .int a1), (2, .ref a2)] [] I L _
  refine w_aload_n (q := 1) (i := 0) (j := 0) hc dX8_isMember_0 rfl rfl rfl ?_
  refine w_iload_n (q := 2) (i := 1) (j := 1) hc dX8_isMember_1 rfl rfl rfl ?_
  refine w_aload_n (q := 3) (i := 2) (j := 2) hc dX8_isMember_2 rfl rfl rfl ?_
  refine w_callV_Wi (q := 6) (st := []) (args := [.int a1, .ref a2]) (p := 43) hc (m_X8_sifts hK hR (kB hK (kA hK ha2))) dX8_isMember_3 ml_X8_142 cf_X8_sifts iv_X8_sifts (k_43 hK) (C := RX8) (T := TX8) (N := 45) rfl rfl (Nat.lt_of_succ_le (Nat.le_of_ble_eq_true rfl)) rfl rfl (Nat.le_of_ble_eq_true rfl) ⟨Nat.le_of_ble_eq_true rfl, Nat.le_of_ble_eq_true rfl⟩ rfl (fun q_1 => ?_)
  refine w_bipush (q := 8) hc dX8_isMember_6 cb_10 rfl ?_
  refine w_icmpne (q := 11) (tgt := 15) hc dX8_isMember_8 rfl rfl ?_ ?_
  · refine w_iconst (q := 12) hc dX8_isMember_11 ci_1 rfl ?_
    refine w_goto (tgt := 16) hc dX8_isMember_12 rfl ?_
    exact w_ireturn (v := b2i true) hc hq dX8_isMember_16 (nar_b2i true) rfl rfl
  · refine w_iconst (q := 16) hc dX8_isMember_15 ci_0 rfl ?_
    exact w_ireturn (v := b2i false) hc hq dX8_isMember_16 (nar_b2i false) rfl rfl
set_option maxRecDepth 100000 in
set_option maxHeartbeats 4000000 in
theorem m_X8_comesTo {l : Launch} {K : KT} {R : MR} {rm : Nat} {a1 : Int32} {a2 : Nat} {I : MI} {L : ML} (hK0 : K = lK rm) (hR0 : R = lR rm) (ha2 : (lK rm)[a2]? = some (10, 10)) : MFg l yX8_comesTo cX8_comesTo 4 (some .boolean) 3 72 [.ref 43, .int a1, .ref a2] K R I L anZW meW (f_X8_comesTo a1 a2 I L) := by
  refine mf_of (plainFor_of_name (by decide)) (Nat.le_of_ble_eq_true rfl) ?_
  intro G hc _ hK1 hR1 hn hq
  have hK := hK1.trans hK0
  have hR := hR1.trans hR0
  have hN : ∀ i, Nat.blt i 4 = true → i < gnL G := fun i h => hn ▸ Nat.blt_eq.mp h
  unfold f_X8_comesTo
  show WW G 0 [(0, .ref 43), (1, .int a1), (2, .ref a2)] [] I L _
  refine w_aload_n (q := 1) (i := 0) (j := 0) hc dX8_comesTo_0 rfl rfl rfl ?_
  refine w_iload_n (q := 2) (i := 1) (j := 1) hc dX8_comesTo_1 rfl rfl rfl ?_
  refine w_aload_n (q := 3) (i := 2) (j := 2) hc dX8_comesTo_2 rfl rfl rfl ?_
  refine w_callV_Wi (q := 6) (st := []) (args := [.int a1, .ref a2]) (p := 43) hc (m_X8_sifts hK hR (kB hK (kA hK ha2))) dX8_comesTo_3 ml_X8_142 cf_X8_sifts iv_X8_sifts (k_43 hK) (C := RX8) (T := TX8) (N := 45) rfl rfl (Nat.lt_of_succ_le (Nat.le_of_ble_eq_true rfl)) rfl rfl (Nat.le_of_ble_eq_true rfl) ⟨Nat.le_of_ble_eq_true rfl, Nat.le_of_ble_eq_true rfl⟩ rfl (fun q_1 => ?_)
  refine w_istore_nB (q := 7) (i := 3) (lv' := fun v3_2 => [(3, .int v3_2), (0, .ref 43), (1, .int a1), (2, .ref a2)]) hc dX8_comesTo_6 rfl (hN 3 rfl) (fun _ => rfl) rfl (fun v3_2 => ?_)
  refine w_iload_n (q := 8) (i := 3) (j := 0) hc dX8_comesTo_7 rfl rfl rfl ?_
  refine w_bipush (q := 10) hc dX8_comesTo_8 cb_10 rfl ?_
  refine w_icmpne (q := 13) (tgt := 15) hc dX8_comesTo_10 rfl rfl ?_ ?_
  · refine w_iconst (q := 14) hc dX8_comesTo_13 ci_0 rfl ?_
    exact w_ireturn (v := b2i false) hc hq dX8_comesTo_14 (nar_b2i false) rfl rfl
  · refine w_aload_n (q := 16) (i := 0) (j := 1) hc dX8_comesTo_15 rfl rfl rfl ?_
    refine gf_X8_34 (q := 19) hc dX8_comesTo_16 (k_43 hK) (r_43_12 hR) rfl ?_
    refine w_bipush (q := 21) hc dX8_comesTo_19 cb_100 rfl ?_
    refine w_iload_n (q := 22) (i := 1) (j := 2) hc dX8_comesTo_21 rfl rfl rfl ?_
    refine w_imul (q := 23) hc dX8_comesTo_22  rfl ?_
    refine w_bipush (q := 25) hc dX8_comesTo_23 cb_10 rfl ?_
    refine w_iload_n (q := 26) (i := 3) (j := 0) hc dX8_comesTo_25 rfl rfl rfl ?_
    refine w_imul (q := 27) hc dX8_comesTo_26  rfl ?_
    refine w_iadd (q := 28) hc dX8_comesTo_27  rfl ?_
    refine w_aload_n (q := 29) (i := 0) (j := 1) hc dX8_comesTo_28 rfl rfl rfl ?_
    refine gf_X8_47 (q := 32) hc dX8_comesTo_29 (k_43 hK) (r_43_16 hR) rfl ?_
    refine w_iload_n (q := 33) (i := 3) (j := 0) hc dX8_comesTo_32 rfl rfl rfl ?_
    refine w_iald (q := 34) hc dX8_comesTo_33 (k_56 hK) rfl ?_
    refine w_iadd (q := 35) hc dX8_comesTo_34  rfl ?_
    refine w_iconst (q := 36) hc dX8_comesTo_35 ci_1 rfl ?_
    refine w_zast (q := 37) hc dX8_comesTo_36 (k_52 hK) rfl (fun I_3 => ?_)
    refine w_aload_n (q := 38) (i := 0) (j := 1) hc dX8_comesTo_37 rfl rfl rfl ?_
    refine gf_X8_47 (q := 41) hc dX8_comesTo_38 (k_43 hK) (r_43_16 hR) rfl ?_
    refine w_iconst (q := 42) hc dX8_comesTo_41 ci_0 rfl ?_
    refine w_aload_n (q := 43) (i := 0) (j := 1) hc dX8_comesTo_42 rfl rfl rfl ?_
    refine gf_X8_38 (q := 46) hc dX8_comesTo_43 (k_43 hK) (r_43_13 hR) rfl ?_
    refine w_sipush (q := 49) hc dX8_comesTo_46 cs_1000 rfl ?_
    refine w_iload_n (q := 50) (i := 1) (j := 2) hc dX8_comesTo_49 rfl rfl rfl ?_
    refine w_imul (q := 51) hc dX8_comesTo_50  rfl ?_
    refine w_bipush (q := 53) hc dX8_comesTo_51 cb_100 rfl ?_
    refine w_iload_n (q := 54) (i := 3) (j := 0) hc dX8_comesTo_53 rfl rfl rfl ?_
    refine w_imul (q := 55) hc dX8_comesTo_54  rfl ?_
    refine w_iadd (q := 56) hc dX8_comesTo_55  rfl ?_
    refine w_bipush (q := 58) hc dX8_comesTo_56 cb_10 rfl ?_
    refine w_aload_n (q := 59) (i := 0) (j := 1) hc dX8_comesTo_58 rfl rfl rfl ?_
    refine gf_X8_47 (q := 62) hc dX8_comesTo_59 (k_43 hK) (r_43_16 hR) rfl ?_
    refine w_iload_n (q := 63) (i := 3) (j := 0) hc dX8_comesTo_62 rfl rfl rfl ?_
    refine w_iald (q := 64) hc dX8_comesTo_63 (k_56 hK) rfl ?_
    refine w_imul (q := 65) hc dX8_comesTo_64  rfl ?_
    refine w_iadd (q := 66) hc dX8_comesTo_65  rfl ?_
    refine w_callS_Wv (q := 69) (st := []) (args := [.ref 56, .int 0, .ref 53, .int (((1000 * a1) + (100 * v3_2)) + (10 * (I_3 56 (ix v3_2))))]) hc (m_X8_copies hK hR (kB hK (k_56 hK)) (kB hK (k_53 hK))) dX8_comesTo_66 ml_X8_100 cf_X8_copies st_X8_copies rfl rfl (Nat.le_of_ble_eq_true rfl) ⟨Nat.le_of_ble_eq_true rfl, Nat.le_of_ble_eq_true rfl⟩ rfl (fun q_4 => ?_)
    refine w_iconst (q := 70) hc dX8_comesTo_69 ci_1 rfl ?_
    exact w_ireturn (v := b2i true) hc hq dX8_comesTo_70 (nar_b2i true) rfl rfl
set_option maxRecDepth 100000 in
set_option maxHeartbeats 4000000 in
theorem wl_X8_closes_47 {G : GT Mm} {rm : Nat} (v1_11 : Int32) (v3_13 : Int32) (hc : Cx G cX8_closes yX8_closes.cls none 4 95) (hq : RetQ G anV meV) (hK : gK G = lK rm) (hR : gR G = lR rm) (hn : gnL G = 5) (k0 : Int32 → MI → ML → Option Mm) (hk0 : ∀ (v2_25 : Int32) (I_26 : MI) (L_27 : ML), WW G 154 [(0, .ref 43), (1, .int v1_11), (2, .int v2_25), (3, .int v3_13)] [] I_26 L_27 (k0 v2_25 I_26 L_27)) : ∀ (n : Nat) (v2_12 : Int32) (v4_14 : Int32) (I_15 : MI) (L_16 : ML), WW G 47 [(0, .ref 43), (1, .int v1_11), (2, .int v2_12), (3, .int v3_13), (4, .int v4_14)] [] I_15 L_16 (f_X8_closes_47 v1_11 v3_13 k0 n v2_12 v4_14 I_15 L_16) := by
  have hN : ∀ i, Nat.blt i 5 = true → i < gnL G := fun i h => hn ▸ Nat.blt_eq.mp h
  intro n
  induction n with
  | zero => intros; exact w_none _ _ _
  | succ n ih =>
    intros v2_12 v4_14 I_15 L_16
    rw [f_X8_closes_47]
    refine w_iload (q := 49) (i := 4) (j := 4) hc dX8_closes_47 rfl rfl ?_
    refine w_bipush (q := 51) hc dX8_closes_49 cb_100 rfl ?_
    refine w_icmpge (q := 54) (tgt := 154) hc dX8_closes_51 rfl rfl ?_ ?_
    · refine w_sub [0, 1, 2, 3] rfl ?_
      exact hk0 v2_12 I_15 L_16
    · refine w_aload_n (q := 55) (i := 0) (j := 0) hc dX8_closes_54 rfl rfl rfl ?_
      refine gf_X8_34 (q := 58) hc dX8_closes_55 (k_43 hK) (r_43_12 hR) rfl ?_
      refine w_bipush (q := 60) hc dX8_closes_58 cb_100 rfl ?_
      refine w_iload_n (q := 61) (i := 1) (j := 1) hc dX8_closes_60 rfl rfl rfl ?_
      refine w_imul (q := 62) hc dX8_closes_61  rfl ?_
      refine w_iload (q := 64) (i := 4) (j := 4) hc dX8_closes_62 rfl rfl ?_
      refine w_iadd (q := 65) hc dX8_closes_64  rfl ?_
      refine w_zald (q := 66) hc dX8_closes_65 (k_52 hK) rfl ?_
      refine w_ifeq (q := 69) (tgt := 148) hc dX8_closes_66 rfl rfl ?_ ?_
      · refine w_iincB (q := 151) (i := 4) (j := 4) (lv' := fun v4_17 => [(4, .int v4_17), (0, .ref 43), (1, .int v1_11), (2, .int v2_12), (3, .int v3_13)]) hc dX8_closes_148 rfl ci_1 (hN 4 rfl) (fun _ => rfl) rfl (fun v4_17 => ?_)
        refine w_goto (tgt := 47) hc dX8_closes_151 rfl ?_
        refine w_sub [1, 2, 3, 4, 0] rfl ?_
        exact ih v2_12 v4_17 I_15 L_16
      · refine w_iload (q := 71) (i := 4) (j := 4) hc dX8_closes_69 rfl rfl ?_
        refine w_bipush (q := 73) hc dX8_closes_71 cb_10 rfl ?_
        refine w_idiv (q := 74) hc dX8_closes_73  rfl ?_
        refine w_iload (q := 76) (i := 4) (j := 4) hc dX8_closes_74 rfl rfl ?_
        refine w_bipush (q := 78) hc dX8_closes_76 cb_10 rfl ?_
        refine w_irem (q := 79) hc dX8_closes_78  rfl ?_
        refine w_icmpne (q := 82) (tgt := 85) hc dX8_closes_79 rfl rfl ?_ ?_
        · refine w_goto (tgt := 148) hc dX8_closes_82 rfl ?_
          refine w_iincB (q := 151) (i := 4) (j := 4) (lv' := fun v4_24 => [(4, .int v4_24), (0, .ref 43), (1, .int v1_11), (2, .int v2_12), (3, .int v3_13)]) hc dX8_closes_148 rfl ci_1 (hN 4 rfl) (fun _ => rfl) rfl (fun v4_24 => ?_)
          refine w_goto (tgt := 47) hc dX8_closes_151 rfl ?_
          refine w_sub [1, 2, 3, 4, 0] rfl ?_
          exact ih v2_12 v4_24 I_15 L_16
        · refine w_aload_n (q := 86) (i := 0) (j := 0) hc dX8_closes_85 rfl rfl rfl ?_
          refine w_iload_n (q := 87) (i := 1) (j := 1) hc dX8_closes_86 rfl rfl rfl ?_
          refine w_iload_n (q := 88) (i := 3) (j := 3) hc dX8_closes_87 rfl rfl rfl ?_
          refine w_bipush (q := 90) hc dX8_closes_88 cb_10 rfl ?_
          refine w_idiv (q := 91) hc dX8_closes_90  rfl ?_
          refine w_iload_n (q := 92) (i := 3) (j := 3) hc dX8_closes_91 rfl rfl rfl ?_
          refine w_bipush (q := 94) hc dX8_closes_92 cb_10 rfl ?_
          refine w_irem (q := 95) hc dX8_closes_94  rfl ?_
          refine w_aload_n (q := 96) (i := 0) (j := 0) hc dX8_closes_95 rfl rfl rfl ?_
          refine gf_X8_50 (q := 99) hc dX8_closes_96 (k_43 hK) (r_43_17 hR) rfl ?_
          refine w_callV_Wv (q := 102) (st := []) (args := [.int v1_11, .int (v3_13 / 10), .int (irem v3_13 10), .ref 57]) (p := 43) hc (m_X8_laysCell hK hR (kB hK (k_57 hK))) dX8_closes_99 ml_X8_134 cf_X8_laysCell iv_X8_laysCell (k_43 hK) (C := RX8) (T := TX8) (N := 45) rfl rfl (Nat.lt_of_succ_le (Nat.le_of_ble_eq_true rfl)) rfl rfl (Nat.le_of_ble_eq_true rfl) ⟨Nat.le_of_ble_eq_true rfl, Nat.le_of_ble_eq_true rfl⟩ rfl (fun q_18 => ?_)
          refine w_aload_n (q := 103) (i := 0) (j := 0) hc dX8_closes_102 rfl rfl rfl ?_
          refine w_iload_n (q := 104) (i := 1) (j := 1) hc dX8_closes_103 rfl rfl rfl ?_
          refine w_iload (q := 106) (i := 4) (j := 4) hc dX8_closes_104 rfl rfl ?_
          refine w_bipush (q := 108) hc dX8_closes_106 cb_10 rfl ?_
          refine w_idiv (q := 109) hc dX8_closes_108  rfl ?_
          refine w_iload (q := 111) (i := 4) (j := 4) hc dX8_closes_109 rfl rfl ?_
          refine w_bipush (q := 113) hc dX8_closes_111 cb_10 rfl ?_
          refine w_irem (q := 114) hc dX8_closes_113  rfl ?_
          refine w_aload_n (q := 115) (i := 0) (j := 0) hc dX8_closes_114 rfl rfl rfl ?_
          refine gf_X8_53 (q := 118) hc dX8_closes_115 (k_43 hK) (r_43_18 hR) rfl ?_
          refine w_callV_Wv (q := 121) (st := []) (args := [.int v1_11, .int (v4_14 / 10), .int (irem v4_14 10), .ref 58]) (p := 43) hc (m_X8_laysCell hK hR (kB hK (k_58 hK))) dX8_closes_118 ml_X8_134 cf_X8_laysCell iv_X8_laysCell (k_43 hK) (C := RX8) (T := TX8) (N := 45) rfl rfl (Nat.lt_of_succ_le (Nat.le_of_ble_eq_true rfl)) rfl rfl (Nat.le_of_ble_eq_true rfl) ⟨Nat.le_of_ble_eq_true rfl, Nat.le_of_ble_eq_true rfl⟩ rfl (fun q_19 => ?_)
          refine w_aload_n (q := 122) (i := 0) (j := 0) hc dX8_closes_121 rfl rfl rfl ?_
          refine gf_X8_50 (q := 125) hc dX8_closes_122 (k_43 hK) (r_43_17 hR) rfl ?_
          refine w_aload_n (q := 126) (i := 0) (j := 0) hc dX8_closes_125 rfl rfl rfl ?_
          refine gf_X8_53 (q := 129) hc dX8_closes_126 (k_43 hK) (r_43_18 hR) rfl ?_
          refine w_aload_n (q := 130) (i := 0) (j := 0) hc dX8_closes_129 rfl rfl rfl ?_
          refine gf_X8_56 (q := 133) hc dX8_closes_130 (k_43 hK) (r_43_19 hR) rfl ?_
          refine w_callS_Wv (q := 136) (st := []) (args := [.ref 57, .ref 58, .ref 59]) hc (m_X8_makes hK hR (kB hK (k_57 hK)) (kB hK (k_58 hK)) (kB hK (k_59 hK))) dX8_closes_133 ml_X8_138 cf_X8_makes st_X8_makes rfl rfl (Nat.le_of_ble_eq_true rfl) ⟨Nat.le_of_ble_eq_true rfl, Nat.le_of_ble_eq_true rfl⟩ rfl (fun q_20 => ?_)
          refine w_iload_n (q := 137) (i := 2) (j := 2) hc dX8_closes_136 rfl rfl rfl ?_
          refine w_aload_n (q := 138) (i := 0) (j := 0) hc dX8_closes_137 rfl rfl rfl ?_
          refine w_iload_n (q := 139) (i := 1) (j := 1) hc dX8_closes_138 rfl rfl rfl ?_
          refine w_aload_n (q := 140) (i := 0) (j := 0) hc dX8_closes_139 rfl rfl rfl ?_
          refine gf_X8_56 (q := 143) hc dX8_closes_140 (k_43 hK) (r_43_19 hR) rfl ?_
          refine w_callV_Wz (q := 146) (st := [.int v2_12]) (args := [.int v1_11, .ref 59]) (p := 43) hc (m_X8_comesTo hK hR (kB hK (k_59 hK))) dX8_closes_143 ml_X8_146 cf_X8_comesTo iv_X8_comesTo (k_43 hK) (C := RX8) (T := TX8) (N := 45) rfl rfl (Nat.lt_of_succ_le (Nat.le_of_ble_eq_true rfl)) rfl rfl (Nat.le_of_ble_eq_true rfl) ⟨Nat.le_of_ble_eq_true rfl, Nat.le_of_ble_eq_true rfl⟩ rfl (fun q_21 => ?_)
          refine w_ior (q := 147) hc dX8_closes_146  rfl ?_
          refine w_istore_nB (q := 148) (i := 2) (lv' := fun v2_22 => [(2, .int v2_22), (0, .ref 43), (1, .int v1_11), (3, .int v3_13), (4, .int v4_14)]) hc dX8_closes_147 rfl (hN 2 rfl) (fun _ => rfl) rfl (fun v2_22 => ?_)
          refine w_iincB (q := 151) (i := 4) (j := 4) (lv' := fun v4_23 => [(4, .int v4_23), (2, .int v2_22), (0, .ref 43), (1, .int v1_11), (3, .int v3_13)]) hc dX8_closes_148 rfl ci_1 (hN 4 rfl) (fun _ => rfl) rfl (fun v4_23 => ?_)
          refine w_goto (tgt := 47) hc dX8_closes_151 rfl ?_
          refine w_sub [2, 3, 1, 4, 0] rfl ?_
          exact ih v2_22 v4_23 q_21.2.1 q_21.2.2
set_option maxRecDepth 100000 in
set_option maxHeartbeats 4000000 in
theorem wl_X8_closes_10 {G : GT Mm} {rm : Nat} (v1_5 : Int32) (hc : Cx G cX8_closes yX8_closes.cls none 4 95) (hq : RetQ G anV meV) (hK : gK G = lK rm) (hR : gR G = lR rm) (hn : gnL G = 5) (k0 : Int32 → MI → ML → Option Mm) (hk0 : ∀ (v2_30 : Int32) (I_31 : MI) (L_32 : ML), WW G 160 [(0, .ref 43), (1, .int v1_5), (2, .int v2_30)] [] I_31 L_32 (k0 v2_30 I_31 L_32)) : ∀ (n : Nat) (v2_6 : Int32) (v3_7 : Int32) (I_8 : MI) (L_9 : ML), WW G 10 [(0, .ref 43), (1, .int v1_5), (2, .int v2_6), (3, .int v3_7)] [] I_8 L_9 (f_X8_closes_10 v1_5 k0 n v2_6 v3_7 I_8 L_9) := by
  have hN : ∀ i, Nat.blt i 5 = true → i < gnL G := fun i h => hn ▸ Nat.blt_eq.mp h
  intro n
  induction n with
  | zero => intros; exact w_none _ _ _
  | succ n ih =>
    intros v2_6 v3_7 I_8 L_9
    rw [f_X8_closes_10]
    refine w_iload_n (q := 11) (i := 3) (j := 3) hc dX8_closes_10 rfl rfl rfl ?_
    refine w_bipush (q := 13) hc dX8_closes_11 cb_100 rfl ?_
    refine w_icmpge (q := 16) (tgt := 160) hc dX8_closes_13 rfl rfl ?_ ?_
    · refine w_sub [0, 1, 2] rfl ?_
      exact hk0 v2_6 I_8 L_9
    · refine w_aload_n (q := 17) (i := 0) (j := 0) hc dX8_closes_16 rfl rfl rfl ?_
      refine gf_X8_34 (q := 20) hc dX8_closes_17 (k_43 hK) (r_43_12 hR) rfl ?_
      refine w_bipush (q := 22) hc dX8_closes_20 cb_100 rfl ?_
      refine w_iload_n (q := 23) (i := 1) (j := 1) hc dX8_closes_22 rfl rfl rfl ?_
      refine w_imul (q := 24) hc dX8_closes_23  rfl ?_
      refine w_iload_n (q := 25) (i := 3) (j := 3) hc dX8_closes_24 rfl rfl rfl ?_
      refine w_iadd (q := 26) hc dX8_closes_25  rfl ?_
      refine w_zald (q := 27) hc dX8_closes_26 (k_52 hK) rfl ?_
      refine w_ifeq (q := 30) (tgt := 154) hc dX8_closes_27 rfl rfl ?_ ?_
      · refine w_iincB (q := 157) (i := 3) (j := 3) (lv' := fun v3_10 => [(3, .int v3_10), (0, .ref 43), (1, .int v1_5), (2, .int v2_6)]) hc dX8_closes_154 rfl ci_1 (hN 3 rfl) (fun _ => rfl) rfl (fun v3_10 => ?_)
        refine w_goto (tgt := 10) hc dX8_closes_157 rfl ?_
        refine w_sub [1, 2, 3, 0] rfl ?_
        exact ih v2_6 v3_10 I_8 L_9
      · refine w_iload_n (q := 31) (i := 3) (j := 3) hc dX8_closes_30 rfl rfl rfl ?_
        refine w_bipush (q := 33) hc dX8_closes_31 cb_10 rfl ?_
        refine w_idiv (q := 34) hc dX8_closes_33  rfl ?_
        refine w_iload_n (q := 35) (i := 3) (j := 3) hc dX8_closes_34 rfl rfl rfl ?_
        refine w_bipush (q := 37) hc dX8_closes_35 cb_10 rfl ?_
        refine w_irem (q := 38) hc dX8_closes_37  rfl ?_
        refine w_icmpne (q := 41) (tgt := 44) hc dX8_closes_38 rfl rfl ?_ ?_
        · refine w_goto (tgt := 154) hc dX8_closes_41 rfl ?_
          refine w_iincB (q := 157) (i := 3) (j := 3) (lv' := fun v3_29 => [(3, .int v3_29), (0, .ref 43), (1, .int v1_5), (2, .int v2_6)]) hc dX8_closes_154 rfl ci_1 (hN 3 rfl) (fun _ => rfl) rfl (fun v3_29 => ?_)
          refine w_goto (tgt := 10) hc dX8_closes_157 rfl ?_
          refine w_sub [1, 2, 3, 0] rfl ?_
          exact ih v2_6 v3_29 I_8 L_9
        · refine w_iconst (q := 45) hc dX8_closes_44 ci_0 rfl ?_
          refine w_istore (q := 47) (i := 4) (lv' := [(4, .int 0), (0, .ref 43), (1, .int v1_5), (2, .int v2_6), (3, .int v3_7)]) hc dX8_closes_45 (hN 4 rfl) rfl rfl ?_
          refine w_sub [1, 2, 3, 4, 0] rfl ?_
          refine wl_X8_closes_47 v1_5 v3_7 hc hq hK hR hn _ ?_ FU v2_6 0 I_8 L_9
          intro v2_25 I_26 L_27
          refine w_iincB (q := 157) (i := 3) (j := 3) (lv' := fun v3_28 => [(3, .int v3_28), (0, .ref 43), (1, .int v1_5), (2, .int v2_25)]) hc dX8_closes_154 rfl ci_1 (hN 3 rfl) (fun _ => rfl) rfl (fun v3_28 => ?_)
          refine w_goto (tgt := 10) hc dX8_closes_157 rfl ?_
          refine w_sub [1, 2, 3, 0] rfl ?_
          exact ih v2_25 v3_28 I_26 L_27
set_option maxRecDepth 100000 in
set_option maxHeartbeats 4000000 in
theorem wl_X8_closes_2 {G : GT Mm} {rm : Nat} (v1_1 : Int32) (hc : Cx G cX8_closes yX8_closes.cls none 4 95) (hq : RetQ G anV meV) (hK : gK G = lK rm) (hR : gR G = lR rm) (hn : gnL G = 5) : ∀ (n : Nat) (v2_2 : Int32) (I_3 : MI) (L_4 : ML), WW G 2 [(0, .ref 43), (1, .int v1_1), (2, .int v2_2)] [] I_3 L_4 (f_X8_closes_2 v1_1 n v2_2 I_3 L_4) := by
  have hN : ∀ i, Nat.blt i 5 = true → i < gnL G := fun i h => hn ▸ Nat.blt_eq.mp h
  intro n
  induction n with
  | zero => intros; exact w_none _ _ _
  | succ n ih =>
    intros v2_2 I_3 L_4
    rw [f_X8_closes_2]
    refine w_iload_n (q := 3) (i := 2) (j := 2) hc dX8_closes_2 rfl rfl rfl ?_
    refine w_ifeq (q := 6) (tgt := 163) hc dX8_closes_3 rfl rfl ?_ ?_
    · exact w_return hc hq dX8_closes_163 rfl rfl
    · refine w_iconst (q := 7) hc dX8_closes_6 ci_0 rfl ?_
      refine w_istore_n (q := 8) (i := 2) (lv' := [(2, .int 0), (0, .ref 43), (1, .int v1_1)]) hc dX8_closes_7 rfl (hN 2 rfl) rfl rfl ?_
      refine w_iconst (q := 9) hc dX8_closes_8 ci_0 rfl ?_
      refine w_istore_n (q := 10) (i := 3) (lv' := [(3, .int 0), (2, .int 0), (0, .ref 43), (1, .int v1_1)]) hc dX8_closes_9 rfl (hN 3 rfl) rfl rfl ?_
      refine w_sub [2, 3, 1, 0] rfl ?_
      refine wl_X8_closes_10 v1_1 hc hq hK hR hn _ ?_ FU 0 0 I_3 L_4
      intro v2_30 I_31 L_32
      refine w_goto (tgt := 2) hc dX8_closes_160 rfl ?_
      exact ih v2_30 I_31 L_32
set_option maxRecDepth 100000 in
set_option maxHeartbeats 4000000 in
theorem m_X8_closes {l : Launch} {K : KT} {R : MR} {rm : Nat} {a1 : Int32} {I : MI} {L : ML} (hK0 : K = lK rm) (hR0 : R = lR rm) : MFg l yX8_closes cX8_closes 5 none 4 95 [.ref 43, .int a1] K R I L anV meV (f_X8_closes a1 I L) := by
  refine mf_of (plainFor_of_name (by decide)) (Nat.le_of_ble_eq_true rfl) ?_
  intro G hc _ hK1 hR1 hn hq
  have hK := hK1.trans hK0
  have hR := hR1.trans hR0
  have hN : ∀ i, Nat.blt i 5 = true → i < gnL G := fun i h => hn ▸ Nat.blt_eq.mp h
  unfold f_X8_closes
  show WW G 0 [(0, .ref 43), (1, .int a1)] [] I L _
  refine w_iconst (q := 1) hc dX8_closes_0 ci_1 rfl ?_
  refine w_istore_n (q := 2) (i := 2) (lv' := [(2, .int 1), (0, .ref 43), (1, .int a1)]) hc dX8_closes_1 rfl (hN 2 rfl) rfl rfl ?_
  refine w_sub [1, 2, 0] rfl ?_
  exact wl_X8_closes_2 a1 hc hq hK hR hn FU 1 I L
set_option maxRecDepth 100000 in
set_option maxHeartbeats 4000000 in
theorem m_X8_adds {l : Launch} {K : KT} {R : MR} {rm : Nat} {a1 : Int32} {a2 : Nat} {I : MI} {L : ML} (hK0 : K = lK rm) (hR0 : R = lR rm) (ha2 : (lK rm)[a2]? = some (10, 10)) : MFg l yX8_adds cX8_adds 3 none 5 119 [.ref 43, .int a1, .ref a2] K R I L anV meV (f_X8_adds a1 a2 I L) := by
  refine mf_of (plainFor_of_name (by decide)) (Nat.le_of_ble_eq_true rfl) ?_
  intro G hc _ hK1 hR1 hn hq
  have hK := hK1.trans hK0
  have hR := hR1.trans hR0
  have hN : ∀ i, Nat.blt i 3 = true → i < gnL G := fun i h => hn ▸ Nat.blt_eq.mp h
  unfold f_X8_adds
  show WW G 0 [(0, .ref 43), (1, .int a1), (2, .ref a2)] [] I L _
  refine w_aload_n (q := 1) (i := 0) (j := 0) hc dX8_adds_0 rfl rfl rfl ?_
  refine w_iload_n (q := 2) (i := 1) (j := 1) hc dX8_adds_1 rfl rfl rfl ?_
  refine w_aload_n (q := 3) (i := 2) (j := 2) hc dX8_adds_2 rfl rfl rfl ?_
  refine w_callV_Wz (q := 6) (st := []) (args := [.int a1, .ref a2]) (p := 43) hc (m_X8_comesTo hK hR (kB hK (kA hK ha2))) dX8_adds_3 ml_X8_146 cf_X8_comesTo iv_X8_comesTo (k_43 hK) (C := RX8) (T := TX8) (N := 45) rfl rfl (Nat.lt_of_succ_le (Nat.le_of_ble_eq_true rfl)) rfl rfl (Nat.le_of_ble_eq_true rfl) ⟨Nat.le_of_ble_eq_true rfl, Nat.le_of_ble_eq_true rfl⟩ rfl (fun q_1 => ?_)
  refine w_ifeq (q := 9) (tgt := 14) hc dX8_adds_6 rfl rfl ?_ ?_
  · exact w_return hc hq dX8_adds_14 rfl rfl
  · refine w_aload_n (q := 10) (i := 0) (j := 0) hc dX8_adds_9 rfl rfl rfl ?_
    refine w_iload_n (q := 11) (i := 1) (j := 1) hc dX8_adds_10 rfl rfl rfl ?_
    refine w_callV_Wv (q := 14) (st := []) (args := [.int a1]) (p := 43) hc (m_X8_closes hK hR) dX8_adds_11 ml_X8_150 cf_X8_closes iv_X8_closes (k_43 hK) (C := RX8) (T := TX8) (N := 45) rfl rfl (Nat.lt_of_succ_le (Nat.le_of_ble_eq_true rfl)) rfl rfl (Nat.le_of_ble_eq_true rfl) ⟨Nat.le_of_ble_eq_true rfl, Nat.le_of_ble_eq_true rfl⟩ rfl (fun q_2 => ?_)
    exact w_return hc hq dX8_adds_14 rfl rfl
set_option maxRecDepth 100000 in
set_option maxHeartbeats 4000000 in
theorem wl_X8_builds_7 {G : GT Mm} {rm : Nat} (v1_2 : Int32) (v2_3 : Int32) (hc : Cx G cX8_builds yX8_builds.cls none 6 141) (hq : RetQ G anV meV) (hK : gK G = lK rm) (hR : gR G = lR rm) (hn : gnL G = 4) : ∀ (n : Nat) (v3_4 : Int32) (I_5 : MI) (L_6 : ML), WW G 7 [(0, .ref 43), (1, .int v1_2), (2, .int v2_3), (3, .int v3_4)] [] I_5 L_6 (f_X8_builds_7 v1_2 v2_3 n v3_4 I_5 L_6) := by
  have hN : ∀ i, Nat.blt i 4 = true → i < gnL G := fun i h => hn ▸ Nat.blt_eq.mp h
  intro n
  induction n with
  | zero => intros; exact w_none _ _ _
  | succ n ih =>
    intros v3_4 I_5 L_6
    rw [f_X8_builds_7]
    refine w_iload_n (q := 8) (i := 3) (j := 3) hc dX8_builds_7 rfl rfl rfl ?_
    refine w_aload_n (q := 9) (i := 0) (j := 0) hc dX8_builds_8 rfl rfl rfl ?_
    refine w_callV_Ri (q := 12) (st := [.int v3_4]) (args := []) (p := 43) hc (m_X8_moves hK hR) dX8_builds_9 ml_X8_110 cf_X8_moves iv_X8_moves (k_43 hK) (C := RX8) (T := TX8) (N := 45) rfl rfl (Nat.lt_of_succ_le (Nat.le_of_ble_eq_true rfl)) rfl rfl (Nat.le_of_ble_eq_true rfl) ⟨Nat.le_of_ble_eq_true rfl, Nat.le_of_ble_eq_true rfl⟩ rfl (fun q_7 => ?_)
    refine w_icmpge (q := 15) (tgt := 50) hc dX8_builds_12 rfl rfl ?_ ?_
    · exact w_return hc hq dX8_builds_50 rfl rfl
    · refine w_iload_n (q := 16) (i := 2) (j := 2) hc dX8_builds_15 rfl rfl rfl ?_
      refine w_iload_n (q := 17) (i := 3) (j := 3) hc dX8_builds_16 rfl rfl rfl ?_
      refine w_callS_Rz (q := 20) (st := []) (args := [.int v2_3, .int v3_4]) hc (m_X8_bit hK hR) dX8_builds_17 ml_X8_157 cf_X8_bit st_X8_bit rfl rfl (Nat.le_of_ble_eq_true rfl) ⟨Nat.le_of_ble_eq_true rfl, Nat.le_of_ble_eq_true rfl⟩ rfl (fun q_8 => ?_)
      refine w_ifne (q := 23) (tgt := 26) hc dX8_builds_20 rfl rfl ?_ ?_
      · refine w_goto (tgt := 44) hc dX8_builds_23 rfl ?_
        refine w_iincB (q := 47) (i := 3) (j := 3) (lv' := fun v3_12 => [(3, .int v3_12), (0, .ref 43), (1, .int v1_2), (2, .int v2_3)]) hc dX8_builds_44 rfl ci_1 (hN 3 rfl) (fun _ => rfl) rfl (fun v3_12 => ?_)
        refine w_goto (tgt := 7) hc dX8_builds_47 rfl ?_
        refine w_sub [1, 2, 3, 0] rfl ?_
        exact ih v3_12 I_5 L_6
      · refine w_aload_n (q := 27) (i := 0) (j := 0) hc dX8_builds_26 rfl rfl rfl ?_
        refine w_iload_n (q := 28) (i := 3) (j := 3) hc dX8_builds_27 rfl rfl rfl ?_
        refine w_aload_n (q := 29) (i := 0) (j := 0) hc dX8_builds_28 rfl rfl rfl ?_
        refine gf_X8_22 (q := 32) hc dX8_builds_29 (k_43 hK) (r_43_8 hR) rfl ?_
        refine w_callV_Wv (q := 35) (st := []) (args := [.int v3_4, .ref 48]) (p := 43) hc (m_X8_laysMove hK hR (kB hK (k_48 hK))) dX8_builds_32 ml_X8_126 cf_X8_laysMove iv_X8_laysMove (k_43 hK) (C := RX8) (T := TX8) (N := 45) rfl rfl (Nat.lt_of_succ_le (Nat.le_of_ble_eq_true rfl)) rfl rfl (Nat.le_of_ble_eq_true rfl) ⟨Nat.le_of_ble_eq_true rfl, Nat.le_of_ble_eq_true rfl⟩ rfl (fun q_9 => ?_)
        refine w_aload_n (q := 36) (i := 0) (j := 0) hc dX8_builds_35 rfl rfl rfl ?_
        refine w_iload_n (q := 37) (i := 1) (j := 1) hc dX8_builds_36 rfl rfl rfl ?_
        refine w_aload_n (q := 38) (i := 0) (j := 0) hc dX8_builds_37 rfl rfl rfl ?_
        refine gf_X8_22 (q := 41) hc dX8_builds_38 (k_43 hK) (r_43_8 hR) rfl ?_
        refine w_callV_Wv (q := 44) (st := []) (args := [.int v1_2, .ref 48]) (p := 43) hc (m_X8_adds hK hR (kB hK (k_48 hK))) dX8_builds_41 ml_X8_161 cf_X8_adds iv_X8_adds (k_43 hK) (C := RX8) (T := TX8) (N := 45) rfl rfl (Nat.lt_of_succ_le (Nat.le_of_ble_eq_true rfl)) rfl rfl (Nat.le_of_ble_eq_true rfl) ⟨Nat.le_of_ble_eq_true rfl, Nat.le_of_ble_eq_true rfl⟩ rfl (fun q_10 => ?_)
        refine w_iincB (q := 47) (i := 3) (j := 3) (lv' := fun v3_11 => [(3, .int v3_11), (0, .ref 43), (1, .int v1_2), (2, .int v2_3)]) hc dX8_builds_44 rfl ci_1 (hN 3 rfl) (fun _ => rfl) rfl (fun v3_11 => ?_)
        refine w_goto (tgt := 7) hc dX8_builds_47 rfl ?_
        refine w_sub [1, 2, 3, 0] rfl ?_
        exact ih v3_11 q_10.1 q_10.2
set_option maxRecDepth 100000 in
set_option maxHeartbeats 4000000 in
theorem m_X8_builds {l : Launch} {K : KT} {R : MR} {rm : Nat} {a1 : Int32} {a2 : Int32} {I : MI} {L : ML} (hK0 : K = lK rm) (hR0 : R = lR rm) : MFg l yX8_builds cX8_builds 4 none 6 141 [.ref 43, .int a1, .int a2] K R I L anV meV (f_X8_builds a1 a2 I L) := by
  refine mf_of (plainFor_of_name (by decide)) (Nat.le_of_ble_eq_true rfl) ?_
  intro G hc _ hK1 hR1 hn hq
  have hK := hK1.trans hK0
  have hR := hR1.trans hR0
  have hN : ∀ i, Nat.blt i 4 = true → i < gnL G := fun i h => hn ▸ Nat.blt_eq.mp h
  unfold f_X8_builds
  show WW G 0 [(0, .ref 43), (1, .int a1), (2, .int a2)] [] I L _
  refine w_aload_n (q := 1) (i := 0) (j := 0) hc dX8_builds_0 rfl rfl rfl ?_
  refine w_iload_n (q := 2) (i := 1) (j := 1) hc dX8_builds_1 rfl rfl rfl ?_
  refine w_callV_Wv (q := 5) (st := []) (args := [.int a1]) (p := 43) hc (m_X8_clears hK hR) dX8_builds_2 ml_X8_154 cf_X8_clears iv_X8_clears (k_43 hK) (C := RX8) (T := TX8) (N := 45) rfl rfl (Nat.lt_of_succ_le (Nat.le_of_ble_eq_true rfl)) rfl rfl (Nat.le_of_ble_eq_true rfl) ⟨Nat.le_of_ble_eq_true rfl, Nat.le_of_ble_eq_true rfl⟩ rfl (fun q_1 => ?_)
  refine w_iconst (q := 6) hc dX8_builds_5 ci_0 rfl ?_
  refine w_istore_n (q := 7) (i := 3) (lv' := [(3, .int 0), (0, .ref 43), (1, .int a1), (2, .int a2)]) hc dX8_builds_6 rfl (hN 3 rfl) rfl rfl ?_
  refine w_sub [1, 2, 3, 0] rfl ?_
  exact wl_X8_builds_7 a1 a2 hc hq hK hR hn FU 0 q_1.1 q_1.2
set_option maxRecDepth 100000 in
set_option maxHeartbeats 4000000 in
theorem wl_X8_widthAt_5 {G : GT Int32} {rm : Nat} (v1_1 : Int32) (v2_2 : Int32) (I : MI) (L : ML) (hc : Cx G cX8_widthAt yX8_widthAt.cls (some .int) 0 0) (hq : RetQ G anI (meR I L)) (hK : gK G = lK rm) (hR : gR G = lR rm) (hn : gnL G = 5) : ∀ (n : Nat) (v3_3 : Int32) (v4_4 : Int32), WW G 5 [(0, .ref 43), (1, .int v1_1), (2, .int v2_2), (3, .int v3_3), (4, .int v4_4)] [] I L (f_X8_widthAt_5 v1_1 v2_2 I L n v3_3 v4_4) := by
  have hN : ∀ i, Nat.blt i 5 = true → i < gnL G := fun i h => hn ▸ Nat.blt_eq.mp h
  intro n
  induction n with
  | zero => intros; exact w_none _ _ _
  | succ n ih =>
    intros v3_3 v4_4
    rw [f_X8_widthAt_5]
    refine w_iload (q := 7) (i := 4) (j := 4) hc dX8_widthAt_5 rfl rfl ?_
    refine w_bipush (q := 9) hc dX8_widthAt_7 cb_10 rfl ?_
    refine w_icmpge (q := 12) (tgt := 46) hc dX8_widthAt_9 rfl rfl ?_ ?_
    · refine w_iload_n (q := 47) (i := 3) (j := 3) hc dX8_widthAt_46 rfl rfl rfl ?_
      exact w_ireturn (v := v3_3) hc hq dX8_widthAt_47 rfl rfl rfl
    · refine w_iload_n (q := 13) (i := 3) (j := 3) hc dX8_widthAt_12 rfl rfl rfl ?_
      refine w_aload_n (q := 14) (i := 0) (j := 0) hc dX8_widthAt_13 rfl rfl rfl ?_
      refine gf_X8_34 (q := 17) hc dX8_widthAt_14 (k_43 hK) (r_43_12 hR) rfl ?_
      refine w_bipush (q := 19) hc dX8_widthAt_17 cb_100 rfl ?_
      refine w_iload_n (q := 20) (i := 1) (j := 1) hc dX8_widthAt_19 rfl rfl rfl ?_
      refine w_imul (q := 21) hc dX8_widthAt_20  rfl ?_
      refine w_bipush (q := 23) hc dX8_widthAt_21 cb_10 rfl ?_
      refine w_iload_n (q := 24) (i := 2) (j := 2) hc dX8_widthAt_23 rfl rfl rfl ?_
      refine w_imul (q := 25) hc dX8_widthAt_24  rfl ?_
      refine w_iadd (q := 26) hc dX8_widthAt_25  rfl ?_
      refine w_iload (q := 28) (i := 4) (j := 4) hc dX8_widthAt_26 rfl rfl ?_
      refine w_iadd (q := 29) hc dX8_widthAt_28  rfl ?_
      refine w_zald (q := 30) hc dX8_widthAt_29 (k_52 hK) rfl ?_
      refine w_ifeq (q := 33) (tgt := 37) hc dX8_widthAt_30 rfl rfl ?_ ?_
      · refine w_iconst (q := 38) hc dX8_widthAt_37 ci_0 rfl ?_
        refine w_iadd (q := 39) hc dX8_widthAt_38  rfl ?_
        refine w_istore_nB (q := 40) (i := 3) (lv' := fun v3_5 => [(3, .int v3_5), (0, .ref 43), (1, .int v1_1), (2, .int v2_2), (4, .int v4_4)]) hc dX8_widthAt_39 rfl (hN 3 rfl) (fun _ => rfl) rfl (fun v3_5 => ?_)
        refine w_iincB (q := 43) (i := 4) (j := 4) (lv' := fun v4_6 => [(4, .int v4_6), (3, .int v3_5), (0, .ref 43), (1, .int v1_1), (2, .int v2_2)]) hc dX8_widthAt_40 rfl ci_1 (hN 4 rfl) (fun _ => rfl) rfl (fun v4_6 => ?_)
        refine w_goto (tgt := 5) hc dX8_widthAt_43 rfl ?_
        refine w_sub [2, 3, 4, 1, 0] rfl ?_
        exact ih v3_5 v4_6
      · refine w_iconst (q := 34) hc dX8_widthAt_33 ci_1 rfl ?_
        refine w_goto (tgt := 38) hc dX8_widthAt_34 rfl ?_
        refine w_iadd (q := 39) hc dX8_widthAt_38  rfl ?_
        refine w_istore_nB (q := 40) (i := 3) (lv' := fun v3_7 => [(3, .int v3_7), (0, .ref 43), (1, .int v1_1), (2, .int v2_2), (4, .int v4_4)]) hc dX8_widthAt_39 rfl (hN 3 rfl) (fun _ => rfl) rfl (fun v3_7 => ?_)
        refine w_iincB (q := 43) (i := 4) (j := 4) (lv' := fun v4_8 => [(4, .int v4_8), (3, .int v3_7), (0, .ref 43), (1, .int v1_1), (2, .int v2_2)]) hc dX8_widthAt_40 rfl ci_1 (hN 4 rfl) (fun _ => rfl) rfl (fun v4_8 => ?_)
        refine w_goto (tgt := 5) hc dX8_widthAt_43 rfl ?_
        refine w_sub [2, 3, 4, 1, 0] rfl ?_
        exact ih v3_7 v4_8
set_option maxRecDepth 100000 in
set_option maxHeartbeats 4000000 in
theorem m_X8_widthAt {l : Launch} {K : KT} {R : MR} {rm : Nat} {a1 : Int32} {a2 : Int32} {I : MI} {L : ML} (hK0 : K = lK rm) (hR0 : R = lR rm) : MFg l yX8_widthAt cX8_widthAt 5 (some .int) 0 0 [.ref 43, .int a1, .int a2] K R I L anI (meR I L) (f_X8_widthAt a1 a2 I L) := by
  refine mf_of (plainFor_of_name (by decide)) (Nat.le_of_ble_eq_true rfl) ?_
  intro G hc _ hK1 hR1 hn hq
  have hK := hK1.trans hK0
  have hR := hR1.trans hR0
  have hN : ∀ i, Nat.blt i 5 = true → i < gnL G := fun i h => hn ▸ Nat.blt_eq.mp h
  unfold f_X8_widthAt
  show WW G 0 [(0, .ref 43), (1, .int a1), (2, .int a2)] [] I L _
  refine w_iconst (q := 1) hc dX8_widthAt_0 ci_0 rfl ?_
  refine w_istore_n (q := 2) (i := 3) (lv' := [(3, .int 0), (0, .ref 43), (1, .int a1), (2, .int a2)]) hc dX8_widthAt_1 rfl (hN 3 rfl) rfl rfl ?_
  refine w_iconst (q := 3) hc dX8_widthAt_2 ci_0 rfl ?_
  refine w_istore (q := 5) (i := 4) (lv' := [(4, .int 0), (3, .int 0), (0, .ref 43), (1, .int a1), (2, .int a2)]) hc dX8_widthAt_3 (hN 4 rfl) rfl rfl ?_
  refine w_sub [2, 3, 4, 1, 0] rfl ?_
  exact wl_X8_widthAt_5 a1 a2 I L hc hq hK hR hn FU 0 0
set_option maxRecDepth 100000 in
set_option maxHeartbeats 4000000 in
theorem wl_X8_orderFrom_5 {G : GT Int32} {rm : Nat} (v1_1 : Int32) (I : MI) (L : ML) (hc : Cx G cX8_orderFrom yX8_orderFrom.cls (some .int) 1 24) (hq : RetQ G anI (meR I L)) (hK : gK G = lK rm) (hR : gR G = lR rm) (hn : gnL G = 5) : ∀ (n : Nat) (v3_2 : Int32) (v4_3 : Int32), WW G 5 [(0, .ref 43), (1, .int v1_1), (3, .int v3_2), (4, .int v4_3)] [] I L (f_X8_orderFrom_5 v1_1 I L n v3_2 v4_3) := by
  have hN : ∀ i, Nat.blt i 5 = true → i < gnL G := fun i h => hn ▸ Nat.blt_eq.mp h
  intro n
  induction n with
  | zero => intros; exact w_none _ _ _
  | succ n ih =>
    intros v3_2 v4_3
    rw [f_X8_orderFrom_5]
    refine w_iload (q := 7) (i := 4) (j := 3) hc dX8_orderFrom_5 rfl rfl ?_
    refine w_bipush (q := 9) hc dX8_orderFrom_7 cb_10 rfl ?_
    refine w_icmpge (q := 12) (tgt := 28) hc dX8_orderFrom_9 rfl rfl ?_ ?_
    · refine w_iload_n (q := 29) (i := 3) (j := 2) hc dX8_orderFrom_28 rfl rfl rfl ?_
      exact w_ireturn (v := v3_2) hc hq dX8_orderFrom_29 rfl rfl rfl
    · refine w_iload_n (q := 13) (i := 3) (j := 2) hc dX8_orderFrom_12 rfl rfl rfl ?_
      refine w_aload_n (q := 14) (i := 0) (j := 0) hc dX8_orderFrom_13 rfl rfl rfl ?_
      refine w_iload_n (q := 15) (i := 1) (j := 1) hc dX8_orderFrom_14 rfl rfl rfl ?_
      refine w_iload (q := 17) (i := 4) (j := 3) hc dX8_orderFrom_15 rfl rfl ?_
      refine w_callV_Ri (q := 20) (st := [.int v3_2]) (args := [.int v1_1, .int v4_3]) (p := 43) hc (m_X8_widthAt hK hR) dX8_orderFrom_17 ml_X8_164 cf_X8_widthAt iv_X8_widthAt (k_43 hK) (C := RX8) (T := TX8) (N := 45) rfl rfl (Nat.lt_of_succ_le (Nat.le_of_ble_eq_true rfl)) rfl rfl (Nat.le_of_ble_eq_true rfl) ⟨Nat.le_of_ble_eq_true rfl, Nat.le_of_ble_eq_true rfl⟩ rfl (fun q_4 => ?_)
      refine w_imul (q := 21) hc dX8_orderFrom_20  rfl ?_
      refine w_istore_nB (q := 22) (i := 3) (lv' := fun v3_5 => [(3, .int v3_5), (0, .ref 43), (1, .int v1_1), (4, .int v4_3)]) hc dX8_orderFrom_21 rfl (hN 3 rfl) (fun _ => rfl) rfl (fun v3_5 => ?_)
      refine w_iincB (q := 25) (i := 4) (j := 3) (lv' := fun v4_6 => [(4, .int v4_6), (3, .int v3_5), (0, .ref 43), (1, .int v1_1)]) hc dX8_orderFrom_22 rfl ci_1 (hN 4 rfl) (fun _ => rfl) rfl (fun v4_6 => ?_)
      refine w_goto (tgt := 5) hc dX8_orderFrom_25 rfl ?_
      refine w_sub [2, 3, 1, 0] rfl ?_
      exact ih v3_5 v4_6
set_option maxRecDepth 100000 in
set_option maxHeartbeats 4000000 in
theorem m_X8_orderFrom {l : Launch} {K : KT} {R : MR} {rm : Nat} {a1 : Int32} {a2 : Int32} {I : MI} {L : ML} (hK0 : K = lK rm) (hR0 : R = lR rm) : MFg l yX8_orderFrom cX8_orderFrom 5 (some .int) 1 24 [.ref 43, .int a1, .int a2] K R I L anI (meR I L) (f_X8_orderFrom a1 a2 I L) := by
  refine mf_of (plainFor_of_name (by decide)) (Nat.le_of_ble_eq_true rfl) ?_
  intro G hc _ hK1 hR1 hn hq
  have hK := hK1.trans hK0
  have hR := hR1.trans hR0
  have hN : ∀ i, Nat.blt i 5 = true → i < gnL G := fun i h => hn ▸ Nat.blt_eq.mp h
  unfold f_X8_orderFrom
  show WW G 0 [(0, .ref 43), (1, .int a1), (2, .int a2)] [] I L _
  refine w_iconst (q := 1) hc dX8_orderFrom_0 ci_1 rfl ?_
  refine w_istore_n (q := 2) (i := 3) (lv' := [(3, .int 1), (0, .ref 43), (1, .int a1), (2, .int a2)]) hc dX8_orderFrom_1 rfl (hN 3 rfl) rfl rfl ?_
  refine w_iload_n (q := 3) (i := 2) (j := 3) hc dX8_orderFrom_2 rfl rfl rfl ?_
  refine w_istore (q := 5) (i := 4) (lv' := [(4, .int a2), (3, .int 1), (0, .ref 43), (1, .int a1), (2, .int a2)]) hc dX8_orderFrom_3 (hN 4 rfl) rfl rfl ?_
  refine w_sub [2, 3, 1, 0] rfl ?_
  exact wl_X8_orderFrom_5 a1 I L hc hq hK hR hn FU 1 a2
set_option maxRecDepth 100000 in
set_option maxHeartbeats 4000000 in
theorem m_X8_orderOf {l : Launch} {K : KT} {R : MR} {rm : Nat} {a1 : Int32} {I : MI} {L : ML} (hK0 : K = lK rm) (hR0 : R = lR rm) : MFg l yX8_orderOf cX8_orderOf 2 (some .int) 2 48 [.ref 43, .int a1] K R I L anI (meR I L) (f_X8_orderOf a1 I L) := by
  refine mf_of (plainFor_of_name (by decide)) (Nat.le_of_ble_eq_true rfl) ?_
  intro G hc _ hK1 hR1 hn hq
  have hK := hK1.trans hK0
  have hR := hR1.trans hR0
  have hN : ∀ i, Nat.blt i 2 = true → i < gnL G := fun i h => hn ▸ Nat.blt_eq.mp h
  unfold f_X8_orderOf
  show WW G 0 [(0, .ref 43), (1, .int a1)] [] I L _
  refine w_aload_n (q := 1) (i := 0) (j := 0) hc dX8_orderOf_0 rfl rfl rfl ?_
  refine w_iload_n (q := 2) (i := 1) (j := 1) hc dX8_orderOf_1 rfl rfl rfl ?_
  refine w_iconst (q := 3) hc dX8_orderOf_2 ci_0 rfl ?_
  refine w_callV_Ri (q := 6) (st := []) (args := [.int a1, .int 0]) (p := 43) hc (m_X8_orderFrom hK hR) dX8_orderOf_3 ml_X8_168 cf_X8_orderFrom iv_X8_orderFrom (k_43 hK) (C := RX8) (T := TX8) (N := 45) rfl rfl (Nat.lt_of_succ_le (Nat.le_of_ble_eq_true rfl)) rfl rfl (Nat.le_of_ble_eq_true rfl) ⟨Nat.le_of_ble_eq_true rfl, Nat.le_of_ble_eq_true rfl⟩ rfl (fun q_1 => ?_)
  exact w_ireturn (v := q_1) hc hq dX8_orderOf_6 rfl rfl rfl
set_option maxRecDepth 100000 in
set_option maxHeartbeats 4000000 in
theorem m_X8_builds_ {l : Launch} {K : KT} {R : MR} {rm : Nat} {I : MI} {L : ML} (hK0 : K = lK rm) (hR0 : R = lR rm) : MFg l yX8_builds_ cX8_builds_ 1 none 7 164 [.ref 43] K R I L anV meV (f_X8_builds_ I L) := by
  refine mf_of (plainFor_of_name (by decide)) (Nat.le_of_ble_eq_true rfl) ?_
  intro G hc _ hK1 hR1 hn hq
  have hK := hK1.trans hK0
  have hR := hR1.trans hR0
  have hN : ∀ i, Nat.blt i 1 = true → i < gnL G := fun i h => hn ▸ Nat.blt_eq.mp h
  unfold f_X8_builds_
  show WW G 0 [(0, .ref 43)] [] I L _
  refine w_aload_n (q := 1) (i := 0) (j := 0) hc dX8_builds__0 rfl rfl rfl ?_
  refine gf_X8_171 (q := 4) hc dX8_builds__1 (k_43 hK) rfl ?_
  refine w_ifne (q := 7) (tgt := 20) hc dX8_builds__4 rfl rfl ?_ ?_
  · refine w_aload_n (q := 8) (i := 0) (j := 0) hc dX8_builds__7 rfl rfl rfl ?_
    refine w_iconst (q := 9) hc dX8_builds__8 ci_0 rfl ?_
    refine w_iconst (q := 10) hc dX8_builds__9 ci_1 rfl ?_
    refine w_aload_n (q := 11) (i := 0) (j := 0) hc dX8_builds__10 rfl rfl rfl ?_
    refine w_callV_Ri (q := 14) (st := [.int 1, .int 0, .ref 43]) (args := []) (p := 43) hc (m_X8_moves hK hR) dX8_builds__11 ml_X8_110 cf_X8_moves iv_X8_moves (k_43 hK) (C := RX8) (T := TX8) (N := 45) rfl rfl (Nat.lt_of_succ_le (Nat.le_of_ble_eq_true rfl)) rfl rfl (Nat.le_of_ble_eq_true rfl) ⟨Nat.le_of_ble_eq_true rfl, Nat.le_of_ble_eq_true rfl⟩ rfl (fun q_2 => ?_)
    refine w_ishl (q := 15) hc dX8_builds__14  rfl ?_
    refine w_iconst (q := 16) hc dX8_builds__15 ci_1 rfl ?_
    refine w_isub (q := 17) hc dX8_builds__16  rfl ?_
    refine w_callV_Wv (q := 20) (st := []) (args := [.int 0, .int ((shl 1 q_2) - 1)]) (p := 43) hc (m_X8_builds hK hR) dX8_builds__17 ml_X8_175 cf_X8_builds iv_X8_builds (k_43 hK) (C := RX8) (T := TX8) (N := 45) rfl rfl (Nat.lt_of_succ_le (Nat.le_of_ble_eq_true rfl)) rfl rfl (Nat.le_of_ble_eq_true rfl) ⟨Nat.le_of_ble_eq_true rfl, Nat.le_of_ble_eq_true rfl⟩ rfl (fun q_3 => ?_)
    refine w_aload_n (q := 21) (i := 0) (j := 0) hc dX8_builds__20 rfl rfl rfl ?_
    refine w_iconst (q := 22) hc dX8_builds__21 ci_1 rfl ?_
    refine pf_X8_171 (q := 25) hc dX8_builds__22 (k_43 hK) bz_1 rfl (fun I_4 => ?_)
    exact w_return hc hq dX8_builds__25 rfl rfl
  · refine w_aload_n (q := 21) (i := 0) (j := 0) hc dX8_builds__20 rfl rfl rfl ?_
    refine w_iconst (q := 22) hc dX8_builds__21 ci_1 rfl ?_
    refine pf_X8_171 (q := 25) hc dX8_builds__22 (k_43 hK) bz_1 rfl (fun I_1 => ?_)
    exact w_return hc hq dX8_builds__25 rfl rfl
set_option maxRecDepth 100000 in
set_option maxHeartbeats 4000000 in
theorem m_X8_orderNow {l : Launch} {K : KT} {R : MR} {rm : Nat} {I : MI} {L : ML} (hK0 : K = lK rm) (hR0 : R = lR rm) : MFg l yX8_orderNow cX8_orderNow 1 (some .int) 8 184 [.ref 43] K R I L anIW meW (f_X8_orderNow I L) := by
  refine mf_of (plainFor_of_name (by decide)) (Nat.le_of_ble_eq_true rfl) ?_
  intro G hc _ hK1 hR1 hn hq
  have hK := hK1.trans hK0
  have hR := hR1.trans hR0
  have hN : ∀ i, Nat.blt i 1 = true → i < gnL G := fun i h => hn ▸ Nat.blt_eq.mp h
  unfold f_X8_orderNow
  show WW G 0 [(0, .ref 43)] [] I L _
  refine w_aload_n (q := 1) (i := 0) (j := 0) hc dX8_orderNow_0 rfl rfl rfl ?_
  refine w_callV_Wv (q := 4) (st := []) (args := []) (p := 43) hc (m_X8_builds_ hK hR) dX8_orderNow_1 ml_X8_179 cf_X8_builds_ iv_X8_builds_ (k_43 hK) (C := RX8) (T := TX8) (N := 45) rfl rfl (Nat.lt_of_succ_le (Nat.le_of_ble_eq_true rfl)) rfl rfl (Nat.le_of_ble_eq_true rfl) ⟨Nat.le_of_ble_eq_true rfl, Nat.le_of_ble_eq_true rfl⟩ rfl (fun q_1 => ?_)
  refine w_aload_n (q := 5) (i := 0) (j := 0) hc dX8_orderNow_4 rfl rfl rfl ?_
  refine w_iconst (q := 6) hc dX8_orderNow_5 ci_0 rfl ?_
  refine w_callV_Ri (q := 9) (st := []) (args := [.int 0]) (p := 43) hc (m_X8_orderOf hK hR) dX8_orderNow_6 ml_X8_181 cf_X8_orderOf iv_X8_orderOf (k_43 hK) (C := RX8) (T := TX8) (N := 45) rfl rfl (Nat.lt_of_succ_le (Nat.le_of_ble_eq_true rfl)) rfl rfl (Nat.le_of_ble_eq_true rfl) ⟨Nat.le_of_ble_eq_true rfl, Nat.le_of_ble_eq_true rfl⟩ rfl (fun q_2 => ?_)
  exact w_ireturn (v := q_2) hc hq dX8_orderNow_9 rfl rfl rfl
set_option maxRecDepth 100000 in
set_option maxHeartbeats 4000000 in
theorem m_X8_isSmall {l : Launch} {K : KT} {R : MR} {rm : Nat} {I : MI} {L : ML} (hK0 : K = lK rm) (hR0 : R = lR rm) : MFg l yX8_isSmall cX8_isSmall 1 (some .boolean) 9 204 [.ref 43] K R I L anZW meW (f_X8_isSmall I L) := by
  refine mf_of (plainFor_of_name (by decide)) (Nat.le_of_ble_eq_true rfl) ?_
  intro G hc _ hK1 hR1 hn hq
  have hK := hK1.trans hK0
  have hR := hR1.trans hR0
  have hN : ∀ i, Nat.blt i 1 = true → i < gnL G := fun i h => hn ▸ Nat.blt_eq.mp h
  unfold f_X8_isSmall
  show WW G 0 [(0, .ref 43)] [] I L _
  refine w_aload_n (q := 1) (i := 0) (j := 0) hc dX8_isSmall_0 rfl rfl rfl ?_
  refine w_callV_Wi (q := 4) (st := []) (args := []) (p := 43) hc (m_X8_orderNow hK hR) dX8_isSmall_1 ml_X8_185 cf_X8_orderNow iv_X8_orderNow (k_43 hK) (C := RX8) (T := TX8) (N := 45) rfl rfl (Nat.lt_of_succ_le (Nat.le_of_ble_eq_true rfl)) rfl rfl (Nat.le_of_ble_eq_true rfl) ⟨Nat.le_of_ble_eq_true rfl, Nat.le_of_ble_eq_true rfl⟩ rfl (fun q_1 => ?_)
  refine w_sipush (q := 7) hc dX8_isSmall_4 cs_5040 rfl ?_
  refine w_icmpgt (q := 10) (tgt := 14) hc dX8_isSmall_7 rfl rfl ?_ ?_
  · refine w_iconst (q := 15) hc dX8_isSmall_14 ci_0 rfl ?_
    exact w_ireturn (v := b2i false) hc hq dX8_isSmall_15 (nar_b2i false) rfl rfl
  · refine w_iconst (q := 11) hc dX8_isSmall_10 ci_1 rfl ?_
    refine w_goto (tgt := 15) hc dX8_isSmall_11 rfl ?_
    exact w_ireturn (v := b2i true) hc hq dX8_isSmall_15 (nar_b2i true) rfl rfl
set_option maxRecDepth 100000 in
set_option maxHeartbeats 4000000 in
theorem m_X8_whySmall {l : Launch} {K : KT} {R : MR} {rm : Nat} {a1 : Int32} {I : MI} {L : ML} (hK0 : K = lK rm) (hR0 : R = lR rm) : MFg l yX8_whySmall cX8_whySmall 2 (some .int) 10 224 [.ref 43, .int a1] K R I L anIW meW (f_X8_whySmall a1 I L) := by
  refine mf_of (plainFor_of_name (by decide)) (Nat.le_of_ble_eq_true rfl) ?_
  intro G hc _ hK1 hR1 hn hq
  have hK := hK1.trans hK0
  have hR := hR1.trans hR0
  have hN : ∀ i, Nat.blt i 2 = true → i < gnL G := fun i h => hn ▸ Nat.blt_eq.mp h
  unfold f_X8_whySmall
  show WW G 0 [(0, .ref 43), (1, .int a1)] [] I L _
  refine w_iload_n (q := 1) (i := 1) (j := 1) hc dX8_whySmall_0 rfl rfl rfl ?_
  refine w_ifeq (q := 4) (tgt := 8) hc dX8_whySmall_1 rfl rfl ?_ ?_
  · refine w_aload_n (q := 9) (i := 0) (j := 0) hc dX8_whySmall_8 rfl rfl rfl ?_
    refine gf_X8_118 (q := 12) hc dX8_whySmall_9 (k_43 hK) rfl ?_
    refine w_ifne (q := 15) (tgt := 19) hc dX8_whySmall_12 rfl rfl ?_ ?_
    · refine w_iconst (q := 16) hc dX8_whySmall_15 ci_5 rfl ?_
      refine w_goto (tgt := 31) hc dX8_whySmall_16 rfl ?_
      exact w_ireturn (v := 5) hc hq dX8_whySmall_31 rfl rfl rfl
    · refine w_aload_n (q := 20) (i := 0) (j := 0) hc dX8_whySmall_19 rfl rfl rfl ?_
      refine w_callV_Wz (q := 23) (st := []) (args := []) (p := 43) hc (m_X8_isSmall hK hR) dX8_whySmall_20 ml_X8_188 cf_X8_isSmall iv_X8_isSmall (k_43 hK) (C := RX8) (T := TX8) (N := 45) rfl rfl (Nat.lt_of_succ_le (Nat.le_of_ble_eq_true rfl)) rfl rfl (Nat.le_of_ble_eq_true rfl) ⟨Nat.le_of_ble_eq_true rfl, Nat.le_of_ble_eq_true rfl⟩ rfl (fun q_1 => ?_)
      refine w_ifeq (q := 26) (tgt := 30) hc dX8_whySmall_23 rfl rfl ?_ ?_
      · refine w_iconst (q := 31) hc dX8_whySmall_30 ci_3 rfl ?_
        exact w_ireturn (v := 3) hc hq dX8_whySmall_31 rfl rfl rfl
      · refine w_iconst (q := 27) hc dX8_whySmall_26 ci_0 rfl ?_
        refine w_goto (tgt := 31) hc dX8_whySmall_27 rfl ?_
        exact w_ireturn (v := 0) hc hq dX8_whySmall_31 rfl rfl rfl
  · refine w_iload_n (q := 5) (i := 1) (j := 1) hc dX8_whySmall_4 rfl rfl rfl ?_
    refine w_goto (tgt := 31) hc dX8_whySmall_5 rfl ?_
    exact w_ireturn (v := a1) hc hq dX8_whySmall_31 rfl rfl rfl
set_option maxRecDepth 100000 in
set_option maxHeartbeats 4000000 in
theorem m_X8_whyHere {l : Launch} {K : KT} {R : MR} {rm : Nat} {a1 : Int32} {I : MI} {L : ML} (hK0 : K = lK rm) (hR0 : R = lR rm) : MFg l yX8_whyHere cX8_whyHere 2 (some .int) 0 0 [.ref 43, .int a1] K R I L anI (meR I L) (f_X8_whyHere a1 I L) := by
  refine mf_of (plainFor_of_name (by decide)) (Nat.le_of_ble_eq_true rfl) ?_
  intro G hc _ hK1 hR1 hn hq
  have hK := hK1.trans hK0
  have hR := hR1.trans hR0
  have hN : ∀ i, Nat.blt i 2 = true → i < gnL G := fun i h => hn ▸ Nat.blt_eq.mp h
  unfold f_X8_whyHere
  show WW G 0 [(0, .ref 43), (1, .int a1)] [] I L _
  refine w_iload_n (q := 1) (i := 1) (j := 1) hc dX8_whyHere_0 rfl rfl rfl ?_
  refine w_ifeq (q := 4) (tgt := 8) hc dX8_whyHere_1 rfl rfl ?_ ?_
  · refine w_aload_n (q := 9) (i := 0) (j := 0) hc dX8_whyHere_8 rfl rfl rfl ?_
    refine gf_X8_118 (q := 12) hc dX8_whyHere_9 (k_43 hK) rfl ?_
    refine w_ifne (q := 15) (tgt := 19) hc dX8_whyHere_12 rfl rfl ?_ ?_
    · refine w_iconst (q := 16) hc dX8_whyHere_15 ci_5 rfl ?_
      refine w_goto (tgt := 20) hc dX8_whyHere_16 rfl ?_
      exact w_ireturn (v := 5) hc hq dX8_whyHere_20 rfl rfl rfl
    · refine w_iconst (q := 20) hc dX8_whyHere_19 ci_0 rfl ?_
      exact w_ireturn (v := 0) hc hq dX8_whyHere_20 rfl rfl rfl
  · refine w_iload_n (q := 5) (i := 1) (j := 1) hc dX8_whyHere_4 rfl rfl rfl ?_
    refine w_goto (tgt := 20) hc dX8_whyHere_5 rfl ?_
    exact w_ireturn (v := a1) hc hq dX8_whyHere_20 rfl rfl rfl
set_option maxRecDepth 100000 in
set_option maxHeartbeats 4000000 in
theorem m_X8_why {l : Launch} {K : KT} {R : MR} {rm : Nat} {a0 : Bool} {a1 : Bool} {I : MI} {L : ML} (hK0 : K = lK rm) (hR0 : R = lR rm) : MFg l yX8_why cX8_why 2 (some .int) 0 0 [.int (b2i a0), .int (b2i a1)] K R I L anI (meR I L) (f_X8_why a0 a1) := by
  refine mf_of (plainFor_of_name (by decide)) (Nat.le_of_ble_eq_true rfl) ?_
  intro G hc _ hK1 hR1 hn hq
  have hK := hK1.trans hK0
  have hR := hR1.trans hR0
  have hN : ∀ i, Nat.blt i 2 = true → i < gnL G := fun i h => hn ▸ Nat.blt_eq.mp h
  unfold f_X8_why
  show WW G 0 [(0, .int (b2i a0)), (1, .int (b2i a1))] [] I L _
  refine w_iload_n (q := 1) (i := 0) (j := 0) hc dX8_why_0 rfl rfl rfl ?_
  refine w_ifne (q := 4) (tgt := 8) hc dX8_why_1 rfl rfl ?_ ?_
  · refine w_iconst (q := 5) hc dX8_why_4 ci_1 rfl ?_
    refine w_goto (tgt := 17) hc dX8_why_5 rfl ?_
    exact w_ireturn (v := 1) hc hq dX8_why_17 rfl rfl rfl
  · refine w_iload_n (q := 9) (i := 1) (j := 1) hc dX8_why_8 rfl rfl rfl ?_
    refine w_ifeq (q := 12) (tgt := 16) hc dX8_why_9 rfl rfl ?_ ?_
    · refine w_iconst (q := 17) hc dX8_why_16 ci_2 rfl ?_
      exact w_ireturn (v := 2) hc hq dX8_why_17 rfl rfl rfl
    · refine w_iconst (q := 13) hc dX8_why_12 ci_0 rfl ?_
      refine w_goto (tgt := 17) hc dX8_why_13 rfl ?_
      exact w_ireturn (v := 0) hc hq dX8_why_17 rfl rfl rfl
set_option maxRecDepth 100000 in
set_option maxHeartbeats 4000000 in
theorem wl_X8_placeOf_28 {G : GT (Int32 × Mm)} {rm : Nat} (a1 : Nat) (v2_6 : Int32) (v3_7 : Int32) (I : MI) (L : ML) (hc : Cx G cX8_placeOf yX8_placeOf.cls (some .int) 2 48) (hq : RetQ G anIW meW) (hK : gK G = lK rm) (hR : gR G = lR rm) (hn : gnL G = 7) (ha1 : (lK rm)[a1]? = some (10, 10)) (k0 : Int32 → Int32 → Option (Int32 × Mm)) (hk0 : ∀ (v4_18 : Int32) (v5_19 : Int32), WW G 98 [(0, .ref 43), (1, .ref a1), (2, .int v2_6), (3, .int v3_7), (4, .int v4_18), (5, .int v5_19)] [] I L (k0 v4_18 v5_19)) : ∀ (n : Nat) (v4_8 : Int32) (v5_9 : Int32) (v6_10 : Int32), WW G 28 [(0, .ref 43), (1, .ref a1), (2, .int v2_6), (3, .int v3_7), (4, .int v4_8), (5, .int v5_9), (6, .int v6_10)] [] I L (f_X8_placeOf_28 a1 v2_6 v3_7 I L k0 n v4_8 v5_9 v6_10) := by
  have hN : ∀ i, Nat.blt i 7 = true → i < gnL G := fun i h => hn ▸ Nat.blt_eq.mp h
  intro n
  induction n with
  | zero => intros; exact w_none _ _ _
  | succ n ih =>
    intros v4_8 v5_9 v6_10
    rw [f_X8_placeOf_28]
    refine w_iload (q := 30) (i := 6) (j := 6) hc dX8_placeOf_28 rfl rfl ?_
    refine w_aload_n (q := 31) (i := 0) (j := 0) hc dX8_placeOf_30 rfl rfl rfl ?_
    refine gf_X8_118 (q := 34) hc dX8_placeOf_31 (k_43 hK) rfl ?_
    refine w_icmpge (q := 37) (tgt := 98) hc dX8_placeOf_34 rfl rfl ?_ ?_
    · refine w_sub [0, 1, 2, 3, 4, 5] rfl ?_
      exact hk0 v4_8 v5_9
    · refine w_aload_n (q := 38) (i := 0) (j := 0) hc dX8_placeOf_37 rfl rfl rfl ?_
      refine gf_X8_56 (q := 41) hc dX8_placeOf_38 (k_43 hK) (r_43_19 hR) rfl ?_
      refine w_iload (q := 43) (i := 6) (j := 6) hc dX8_placeOf_41 rfl rfl ?_
      refine w_iald (q := 44) hc dX8_placeOf_43 (k_59 hK) rfl ?_
      refine w_aload_n (q := 45) (i := 1) (j := 1) hc dX8_placeOf_44 rfl rfl rfl ?_
      refine w_iload_n (q := 46) (i := 3) (j := 3) hc dX8_placeOf_45 rfl rfl rfl ?_
      refine w_iald (q := 47) hc dX8_placeOf_46 (kA hK ha1) rfl ?_
      refine w_join (fun j54_202 : Int32 → Option (Int32 × Mm) => ∀ (v4_11 : Int32), WW G 54 [(0, .ref 43), (1, .ref a1), (2, .int v2_6), (3, .int v3_7), (4, .int v4_11), (5, .int v5_9), (6, .int v6_10)] [] I L (j54_202 v4_11)) ?_ ?_
      · intro v4_11
        refine w_iload (q := 56) (i := 5) (j := 5) hc dX8_placeOf_54 rfl rfl ?_
        refine w_aload_n (q := 57) (i := 0) (j := 0) hc dX8_placeOf_56 rfl rfl rfl ?_
        refine gf_X8_34 (q := 60) hc dX8_placeOf_57 (k_43 hK) (r_43_12 hR) rfl ?_
        refine w_bipush (q := 62) hc dX8_placeOf_60 cb_10 rfl ?_
        refine w_iload_n (q := 63) (i := 3) (j := 3) hc dX8_placeOf_62 rfl rfl rfl ?_
        refine w_imul (q := 64) hc dX8_placeOf_63  rfl ?_
        refine w_iload (q := 66) (i := 6) (j := 6) hc dX8_placeOf_64 rfl rfl ?_
        refine w_iadd (q := 67) hc dX8_placeOf_66  rfl ?_
        refine w_zald (q := 68) hc dX8_placeOf_67 (k_52 hK) rfl ?_
        refine w_ifeq (q := 71) (tgt := 88) hc dX8_placeOf_68 rfl rfl ?_ ?_
        · refine w_iconst (q := 89) hc dX8_placeOf_88 ci_0 rfl ?_
          refine w_iadd (q := 90) hc dX8_placeOf_89  rfl ?_
          refine w_istoreB (q := 92) (i := 5) (lv' := fun v5_12 => [(5, .int v5_12), (0, .ref 43), (1, .ref a1), (2, .int v2_6), (3, .int v3_7), (4, .int v4_11), (6, .int v6_10)]) hc dX8_placeOf_90 (hN 5 rfl) (fun _ => rfl) rfl (fun v5_12 => ?_)
          refine w_iincB (q := 95) (i := 6) (j := 6) (lv' := fun v6_13 => [(6, .int v6_13), (5, .int v5_12), (0, .ref 43), (1, .ref a1), (2, .int v2_6), (3, .int v3_7), (4, .int v4_11)]) hc dX8_placeOf_92 rfl ci_1 (hN 6 rfl) (fun _ => rfl) rfl (fun v6_13 => ?_)
          refine w_goto (tgt := 28) hc dX8_placeOf_95 rfl ?_
          refine w_sub [2, 3, 4, 5, 6, 1, 0] rfl ?_
          exact ih v4_11 v5_12 v6_13
        · refine w_aload_n (q := 72) (i := 0) (j := 0) hc dX8_placeOf_71 rfl rfl rfl ?_
          refine gf_X8_56 (q := 75) hc dX8_placeOf_72 (k_43 hK) (r_43_19 hR) rfl ?_
          refine w_iload (q := 77) (i := 6) (j := 6) hc dX8_placeOf_75 rfl rfl ?_
          refine w_iald (q := 78) hc dX8_placeOf_77 (k_59 hK) rfl ?_
          refine w_aload_n (q := 79) (i := 1) (j := 1) hc dX8_placeOf_78 rfl rfl rfl ?_
          refine w_iload_n (q := 80) (i := 3) (j := 3) hc dX8_placeOf_79 rfl rfl rfl ?_
          refine w_iald (q := 81) hc dX8_placeOf_80 (kA hK ha1) rfl ?_
          refine w_icmpge (q := 84) (tgt := 88) hc dX8_placeOf_81 rfl rfl ?_ ?_
          · refine w_iconst (q := 89) hc dX8_placeOf_88 ci_0 rfl ?_
            refine w_iadd (q := 90) hc dX8_placeOf_89  rfl ?_
            refine w_istoreB (q := 92) (i := 5) (lv' := fun v5_14 => [(5, .int v5_14), (0, .ref 43), (1, .ref a1), (2, .int v2_6), (3, .int v3_7), (4, .int v4_11), (6, .int v6_10)]) hc dX8_placeOf_90 (hN 5 rfl) (fun _ => rfl) rfl (fun v5_14 => ?_)
            refine w_iincB (q := 95) (i := 6) (j := 6) (lv' := fun v6_15 => [(6, .int v6_15), (5, .int v5_14), (0, .ref 43), (1, .ref a1), (2, .int v2_6), (3, .int v3_7), (4, .int v4_11)]) hc dX8_placeOf_92 rfl ci_1 (hN 6 rfl) (fun _ => rfl) rfl (fun v6_15 => ?_)
            refine w_goto (tgt := 28) hc dX8_placeOf_95 rfl ?_
            refine w_sub [2, 3, 4, 5, 6, 1, 0] rfl ?_
            exact ih v4_11 v5_14 v6_15
          · refine w_iconst (q := 85) hc dX8_placeOf_84 ci_1 rfl ?_
            refine w_goto (tgt := 89) hc dX8_placeOf_85 rfl ?_
            refine w_iadd (q := 90) hc dX8_placeOf_89  rfl ?_
            refine w_istoreB (q := 92) (i := 5) (lv' := fun v5_16 => [(5, .int v5_16), (0, .ref 43), (1, .ref a1), (2, .int v2_6), (3, .int v3_7), (4, .int v4_11), (6, .int v6_10)]) hc dX8_placeOf_90 (hN 5 rfl) (fun _ => rfl) rfl (fun v5_16 => ?_)
            refine w_iincB (q := 95) (i := 6) (j := 6) (lv' := fun v6_17 => [(6, .int v6_17), (5, .int v5_16), (0, .ref 43), (1, .ref a1), (2, .int v2_6), (3, .int v3_7), (4, .int v4_11)]) hc dX8_placeOf_92 rfl ci_1 (hN 6 rfl) (fun _ => rfl) rfl (fun v6_17 => ?_)
            refine w_goto (tgt := 28) hc dX8_placeOf_95 rfl ?_
            refine w_sub [2, 3, 4, 5, 6, 1, 0] rfl ?_
            exact ih v4_11 v5_16 v6_17
      · intro j54_202 hj54_202
        refine w_icmpne (q := 50) (tgt := 54) hc dX8_placeOf_47 rfl rfl ?_ ?_
        · refine w_iload (q := 52) (i := 6) (j := 6) hc dX8_placeOf_50 rfl rfl ?_
          refine w_istore (q := 54) (i := 4) (lv' := [(4, .int v6_10), (0, .ref 43), (1, .ref a1), (2, .int v2_6), (3, .int v3_7), (5, .int v5_9), (6, .int v6_10)]) hc dX8_placeOf_52 (hN 4 rfl) rfl rfl ?_
          refine w_sub [1, 2, 3, 4, 0, 5, 6] rfl ?_
          exact hj54_202 v6_10
        · exact hj54_202 v4_8
set_option maxRecDepth 100000 in
set_option maxHeartbeats 4000000 in
theorem wl_X8_placeOf_11 {G : GT (Int32 × Mm)} {rm : Nat} (a1 : Nat) (hc : Cx G cX8_placeOf yX8_placeOf.cls (some .int) 2 48) (hq : RetQ G anIW meW) (hK : gK G = lK rm) (hR : gR G = lR rm) (hn : gnL G = 7) (ha1 : (lK rm)[a1]? = some (10, 10)) : ∀ (n : Nat) (v2_2 : Int32) (v3_3 : Int32) (I_4 : MI) (L_5 : ML), WW G 11 [(0, .ref 43), (1, .ref a1), (2, .int v2_2), (3, .int v3_3)] [] I_4 L_5 (f_X8_placeOf_11 a1 n v2_2 v3_3 I_4 L_5) := by
  have hN : ∀ i, Nat.blt i 7 = true → i < gnL G := fun i h => hn ▸ Nat.blt_eq.mp h
  intro n
  induction n with
  | zero => intros; exact w_none _ _ _
  | succ n ih =>
    intros v2_2 v3_3 I_4 L_5
    rw [f_X8_placeOf_11]
    refine w_iload_n (q := 12) (i := 3) (j := 3) hc dX8_placeOf_11 rfl rfl rfl ?_
    refine w_aload_n (q := 13) (i := 0) (j := 0) hc dX8_placeOf_12 rfl rfl rfl ?_
    refine gf_X8_118 (q := 16) hc dX8_placeOf_13 (k_43 hK) rfl ?_
    refine w_icmpge (q := 19) (tgt := 175) hc dX8_placeOf_16 rfl rfl ?_ ?_
    · refine w_iload_n (q := 176) (i := 2) (j := 2) hc dX8_placeOf_175 rfl rfl rfl ?_
      exact w_ireturn (v := v2_2) hc hq dX8_placeOf_176 rfl rfl rfl
    · refine w_iconst (q := 20) hc dX8_placeOf_19 ci_0 rfl ?_
      refine w_istore (q := 22) (i := 4) (lv' := [(4, .int 0), (0, .ref 43), (1, .ref a1), (2, .int v2_2), (3, .int v3_3)]) hc dX8_placeOf_20 (hN 4 rfl) rfl rfl ?_
      refine w_iconst (q := 23) hc dX8_placeOf_22 ci_0 rfl ?_
      refine w_istore (q := 25) (i := 5) (lv' := [(5, .int 0), (4, .int 0), (0, .ref 43), (1, .ref a1), (2, .int v2_2), (3, .int v3_3)]) hc dX8_placeOf_23 (hN 5 rfl) rfl rfl ?_
      refine w_iconst (q := 26) hc dX8_placeOf_25 ci_0 rfl ?_
      refine w_istore (q := 28) (i := 6) (lv' := [(6, .int 0), (5, .int 0), (4, .int 0), (0, .ref 43), (1, .ref a1), (2, .int v2_2), (3, .int v3_3)]) hc dX8_placeOf_26 (hN 6 rfl) rfl rfl ?_
      refine w_sub [3, 4, 5, 6, 2, 1, 0] rfl ?_
      refine wl_X8_placeOf_28 a1 v2_2 v3_3 I_4 L_5 hc hq hK hR hn ha1 _ ?_ FU 0 0 0
      intro v4_18 v5_19
      refine w_aload_n (q := 99) (i := 0) (j := 0) hc dX8_placeOf_98 rfl rfl rfl ?_
      refine gf_X8_34 (q := 102) hc dX8_placeOf_99 (k_43 hK) (r_43_12 hR) rfl ?_
      refine w_bipush (q := 104) hc dX8_placeOf_102 cb_10 rfl ?_
      refine w_iload_n (q := 105) (i := 3) (j := 3) hc dX8_placeOf_104 rfl rfl rfl ?_
      refine w_imul (q := 106) hc dX8_placeOf_105  rfl ?_
      refine w_iload (q := 108) (i := 4) (j := 4) hc dX8_placeOf_106 rfl rfl ?_
      refine w_iadd (q := 109) hc dX8_placeOf_108  rfl ?_
      refine w_zald (q := 110) hc dX8_placeOf_109 (k_52 hK) rfl ?_
      refine w_ifne (q := 113) (tgt := 115) hc dX8_placeOf_110 rfl rfl ?_ ?_
      · refine w_iconst (q := 114) hc dX8_placeOf_113 ci_m1 rfl ?_
        exact w_ireturn (v := (-1)) hc hq dX8_placeOf_114 rfl rfl rfl
      · refine w_iload_n (q := 116) (i := 2) (j := 2) hc dX8_placeOf_115 rfl rfl rfl ?_
        refine w_iload (q := 118) (i := 5) (j := 5) hc dX8_placeOf_116 rfl rfl ?_
        refine w_aload_n (q := 119) (i := 0) (j := 0) hc dX8_placeOf_118 rfl rfl rfl ?_
        refine w_iconst (q := 120) hc dX8_placeOf_119 ci_0 rfl ?_
        refine w_iload_n (q := 121) (i := 3) (j := 3) hc dX8_placeOf_120 rfl rfl rfl ?_
        refine w_iconst (q := 122) hc dX8_placeOf_121 ci_1 rfl ?_
        refine w_iadd (q := 123) hc dX8_placeOf_122  rfl ?_
        refine w_callV_Ri (q := 126) (st := [.int v5_19, .int v2_2]) (args := [.int 0, .int (v3_3 + 1)]) (p := 43) hc (m_X8_orderFrom hK hR) dX8_placeOf_123 ml_X8_168 cf_X8_orderFrom iv_X8_orderFrom (k_43 hK) (C := RX8) (T := TX8) (N := 45) rfl rfl (Nat.lt_of_succ_le (Nat.le_of_ble_eq_true rfl)) rfl rfl (Nat.le_of_ble_eq_true rfl) ⟨Nat.le_of_ble_eq_true rfl, Nat.le_of_ble_eq_true rfl⟩ rfl (fun q_20 => ?_)
        refine w_imul (q := 127) hc dX8_placeOf_126  rfl ?_
        refine w_iadd (q := 128) hc dX8_placeOf_127  rfl ?_
        refine w_istore_nB (q := 129) (i := 2) (lv' := fun v2_21 => [(2, .int v2_21), (0, .ref 43), (1, .ref a1), (3, .int v3_3), (4, .int v4_18), (5, .int v5_19)]) hc dX8_placeOf_128 rfl (hN 2 rfl) (fun _ => rfl) rfl (fun v2_21 => ?_)
        refine w_aload_n (q := 130) (i := 0) (j := 1) hc dX8_placeOf_129 rfl rfl rfl ?_
        refine w_iconst (q := 131) hc dX8_placeOf_130 ci_0 rfl ?_
        refine w_iload_n (q := 132) (i := 3) (j := 3) hc dX8_placeOf_131 rfl rfl rfl ?_
        refine w_iload (q := 134) (i := 4) (j := 4) hc dX8_placeOf_132 rfl rfl ?_
        refine w_aload_n (q := 135) (i := 0) (j := 1) hc dX8_placeOf_134 rfl rfl rfl ?_
        refine gf_X8_50 (q := 138) hc dX8_placeOf_135 (k_43 hK) (r_43_17 hR) rfl ?_
        refine w_callV_Wv (q := 141) (st := []) (args := [.int 0, .int v3_3, .int v4_18, .ref 57]) (p := 43) hc (m_X8_laysCell hK hR (kB hK (k_57 hK))) dX8_placeOf_138 ml_X8_134 cf_X8_laysCell iv_X8_laysCell (k_43 hK) (C := RX8) (T := TX8) (N := 45) rfl rfl (Nat.lt_of_succ_le (Nat.le_of_ble_eq_true rfl)) rfl rfl (Nat.le_of_ble_eq_true rfl) ⟨Nat.le_of_ble_eq_true rfl, Nat.le_of_ble_eq_true rfl⟩ rfl (fun q_22 => ?_)
        refine w_aload_n (q := 142) (i := 0) (j := 1) hc dX8_placeOf_141 rfl rfl rfl ?_
        refine gf_X8_56 (q := 145) hc dX8_placeOf_142 (k_43 hK) (r_43_19 hR) rfl ?_
        refine w_iconst (q := 146) hc dX8_placeOf_145 ci_0 rfl ?_
        refine w_aload_n (q := 147) (i := 0) (j := 1) hc dX8_placeOf_146 rfl rfl rfl ?_
        refine gf_X8_53 (q := 150) hc dX8_placeOf_147 (k_43 hK) (r_43_18 hR) rfl ?_
        refine w_iconst (q := 151) hc dX8_placeOf_150 ci_0 rfl ?_
        refine w_callS_Wv (q := 154) (st := []) (args := [.ref 59, .int 0, .ref 58, .int 0]) hc (m_X8_copies hK hR (kB hK (k_59 hK)) (kB hK (k_58 hK))) dX8_placeOf_151 ml_X8_100 cf_X8_copies st_X8_copies rfl rfl (Nat.le_of_ble_eq_true rfl) ⟨Nat.le_of_ble_eq_true rfl, Nat.le_of_ble_eq_true rfl⟩ rfl (fun q_23 => ?_)
        refine w_aload_n (q := 155) (i := 0) (j := 1) hc dX8_placeOf_154 rfl rfl rfl ?_
        refine gf_X8_50 (q := 158) hc dX8_placeOf_155 (k_43 hK) (r_43_17 hR) rfl ?_
        refine w_aload_n (q := 159) (i := 0) (j := 1) hc dX8_placeOf_158 rfl rfl rfl ?_
        refine gf_X8_53 (q := 162) hc dX8_placeOf_159 (k_43 hK) (r_43_18 hR) rfl ?_
        refine w_aload_n (q := 163) (i := 0) (j := 1) hc dX8_placeOf_162 rfl rfl rfl ?_
        refine gf_X8_56 (q := 166) hc dX8_placeOf_163 (k_43 hK) (r_43_19 hR) rfl ?_
        refine w_callS_Wv (q := 169) (st := []) (args := [.ref 57, .ref 58, .ref 59]) hc (m_X8_makes hK hR (kB hK (k_57 hK)) (kB hK (k_58 hK)) (kB hK (k_59 hK))) dX8_placeOf_166 ml_X8_138 cf_X8_makes st_X8_makes rfl rfl (Nat.le_of_ble_eq_true rfl) ⟨Nat.le_of_ble_eq_true rfl, Nat.le_of_ble_eq_true rfl⟩ rfl (fun q_24 => ?_)
        refine w_iincB (q := 172) (i := 3) (j := 3) (lv' := fun v3_25 => [(3, .int v3_25), (2, .int v2_21), (0, .ref 43), (1, .ref a1), (4, .int v4_18), (5, .int v5_19)]) hc dX8_placeOf_169 rfl ci_1 (hN 3 rfl) (fun _ => rfl) rfl (fun v3_25 => ?_)
        refine w_goto (tgt := 11) hc dX8_placeOf_172 rfl ?_
        refine w_sub [2, 3, 1, 0] rfl ?_
        exact ih v2_21 v3_25 q_24.1 q_24.2
set_option maxRecDepth 100000 in
set_option maxHeartbeats 4000000 in
theorem m_X8_placeOf {l : Launch} {K : KT} {R : MR} {rm : Nat} {a1 : Nat} {I : MI} {L : ML} (hK0 : K = lK rm) (hR0 : R = lR rm) (ha1 : (lK rm)[a1]? = some (10, 10)) : MFg l yX8_placeOf cX8_placeOf 7 (some .int) 2 48 [.ref 43, .ref a1] K R I L anIW meW (f_X8_placeOf a1 I L) := by
  refine mf_of (plainFor_of_name (by decide)) (Nat.le_of_ble_eq_true rfl) ?_
  intro G hc _ hK1 hR1 hn hq
  have hK := hK1.trans hK0
  have hR := hR1.trans hR0
  have hN : ∀ i, Nat.blt i 7 = true → i < gnL G := fun i h => hn ▸ Nat.blt_eq.mp h
  unfold f_X8_placeOf
  show WW G 0 [(0, .ref 43), (1, .ref a1)] [] I L _
  refine w_aload_n (q := 1) (i := 0) (j := 0) hc dX8_placeOf_0 rfl rfl rfl ?_
  refine gf_X8_56 (q := 4) hc dX8_placeOf_1 (k_43 hK) (r_43_19 hR) rfl ?_
  refine w_callS_Wv (q := 7) (st := []) (args := [.ref 59]) hc (m_X8_isHome hK hR (kB hK (k_59 hK))) dX8_placeOf_4 ml_X8_96 cf_X8_isHome st_X8_isHome rfl rfl (Nat.le_of_ble_eq_true rfl) ⟨Nat.le_of_ble_eq_true rfl, Nat.le_of_ble_eq_true rfl⟩ rfl (fun q_1 => ?_)
  refine w_iconst (q := 8) hc dX8_placeOf_7 ci_0 rfl ?_
  refine w_istore_n (q := 9) (i := 2) (lv' := [(2, .int 0), (0, .ref 43), (1, .ref a1)]) hc dX8_placeOf_8 rfl (hN 2 rfl) rfl rfl ?_
  refine w_iconst (q := 10) hc dX8_placeOf_9 ci_0 rfl ?_
  refine w_istore_n (q := 11) (i := 3) (lv' := [(3, .int 0), (2, .int 0), (0, .ref 43), (1, .ref a1)]) hc dX8_placeOf_10 rfl (hN 3 rfl) rfl rfl ?_
  refine w_sub [2, 3, 1, 0] rfl ?_
  exact wl_X8_placeOf_11 a1 hc hq hK hR hn ha1 FU 0 0 q_1.1 q_1.2
set_option maxRecDepth 100000 in
set_option maxHeartbeats 4000000 in
theorem wl_X8_laysNth_67 {G : GT Mm} {rm : Nat} (a2 : Nat) (v3_14 : Int32) (v4_15 : Int32) (v8_18 : Int32) (I : MI) (L : ML) (hc : Cx G cX8_laysNth yX8_laysNth.cls none 2 48) (hq : RetQ G anV meV) (hK : gK G = lK rm) (hR : gR G = lR rm) (hn : gnL G = 10) (ha2 : (lK rm)[a2]? = some (10, 10)) (k0 : Int32 → Int32 → Option Mm) (hk0 : ∀ (v6_26 : Int32) (v7_27 : Int32), WW G 125 [(0, .ref 43), (2, .ref a2), (3, .int v3_14), (4, .int v4_15), (6, .int v6_26), (7, .int v7_27), (8, .int v8_18)] [] I L (k0 v6_26 v7_27)) : ∀ (n : Nat) (v6_16 : Int32) (v7_17 : Int32) (v9_19 : Int32), WW G 67 [(0, .ref 43), (2, .ref a2), (3, .int v3_14), (4, .int v4_15), (6, .int v6_16), (7, .int v7_17), (8, .int v8_18), (9, .int v9_19)] [] I L (f_X8_laysNth_67 a2 v3_14 v4_15 v8_18 I L k0 n v6_16 v7_17 v9_19) := by
  have hN : ∀ i, Nat.blt i 10 = true → i < gnL G := fun i h => hn ▸ Nat.blt_eq.mp h
  intro n
  induction n with
  | zero => intros; exact w_none _ _ _
  | succ n ih =>
    intros v6_16 v7_17 v9_19
    rw [f_X8_laysNth_67]
    refine w_iload (q := 69) (i := 9) (j := 7) hc dX8_laysNth_67 rfl rfl ?_
    refine w_aload_n (q := 70) (i := 0) (j := 0) hc dX8_laysNth_69 rfl rfl rfl ?_
    refine gf_X8_118 (q := 73) hc dX8_laysNth_70 (k_43 hK) rfl ?_
    refine w_icmpge (q := 76) (tgt := 125) hc dX8_laysNth_73 rfl rfl ?_ ?_
    · refine w_sub [0, 1, 2, 3, 4, 5, 6] rfl ?_
      exact hk0 v6_16 v7_17
    · refine w_aload_n (q := 77) (i := 0) (j := 0) hc dX8_laysNth_76 rfl rfl rfl ?_
      refine gf_X8_56 (q := 80) hc dX8_laysNth_77 (k_43 hK) (r_43_19 hR) rfl ?_
      refine w_iload (q := 82) (i := 9) (j := 7) hc dX8_laysNth_80 rfl rfl ?_
      refine w_iald (q := 83) hc dX8_laysNth_82 (k_59 hK) rfl ?_
      refine w_iload (q := 85) (i := 8) (j := 6) hc dX8_laysNth_83 rfl rfl ?_
      refine w_icmpne (q := 88) (tgt := 119) hc dX8_laysNth_85 rfl rfl ?_ ?_
      · refine w_aload_n (q := 89) (i := 0) (j := 0) hc dX8_laysNth_88 rfl rfl rfl ?_
        refine gf_X8_34 (q := 92) hc dX8_laysNth_89 (k_43 hK) (r_43_12 hR) rfl ?_
        refine w_bipush (q := 94) hc dX8_laysNth_92 cb_10 rfl ?_
        refine w_iload (q := 96) (i := 4) (j := 3) hc dX8_laysNth_94 rfl rfl ?_
        refine w_imul (q := 97) hc dX8_laysNth_96  rfl ?_
        refine w_iload (q := 99) (i := 9) (j := 7) hc dX8_laysNth_97 rfl rfl ?_
        refine w_iadd (q := 100) hc dX8_laysNth_99  rfl ?_
        refine w_zald (q := 101) hc dX8_laysNth_100 (k_52 hK) rfl ?_
        refine w_ifne (q := 104) (tgt := 107) hc dX8_laysNth_101 rfl rfl ?_ ?_
        · refine w_goto (tgt := 119) hc dX8_laysNth_104 rfl ?_
          refine w_iincB (q := 122) (i := 9) (j := 7) (lv' := fun v9_25 => [(9, .int v9_25), (0, .ref 43), (2, .ref a2), (3, .int v3_14), (4, .int v4_15), (6, .int v6_16), (7, .int v7_17), (8, .int v8_18)]) hc dX8_laysNth_119 rfl ci_1 (hN 9 rfl) (fun _ => rfl) rfl (fun v9_25 => ?_)
          refine w_goto (tgt := 67) hc dX8_laysNth_122 rfl ?_
          refine w_sub [1, 2, 3, 4, 5, 6, 7, 0] rfl ?_
          exact ih v6_16 v7_17 v9_25
        · refine w_iload (q := 109) (i := 6) (j := 4) hc dX8_laysNth_107 rfl rfl ?_
          refine w_ifne (q := 112) (tgt := 116) hc dX8_laysNth_109 rfl rfl ?_ ?_
          · refine w_iload (q := 114) (i := 9) (j := 7) hc dX8_laysNth_112 rfl rfl ?_
            refine w_istore (q := 116) (i := 7) (lv' := [(7, .int v9_19), (0, .ref 43), (2, .ref a2), (3, .int v3_14), (4, .int v4_15), (6, .int v6_16), (8, .int v8_18), (9, .int v9_19)]) hc dX8_laysNth_114 (hN 7 rfl) rfl rfl ?_
            refine w_iincB (q := 119) (i := 6) (j := 5) (lv' := fun v6_23 => [(6, .int v6_23), (7, .int v9_19), (0, .ref 43), (2, .ref a2), (3, .int v3_14), (4, .int v4_15), (8, .int v8_18), (9, .int v9_19)]) hc dX8_laysNth_116 rfl ci_m1 (hN 6 rfl) (fun _ => rfl) rfl (fun v6_23 => ?_)
            refine w_iincB (q := 122) (i := 9) (j := 7) (lv' := fun v9_24 => [(9, .int v9_24), (6, .int v6_23), (7, .int v9_19), (0, .ref 43), (2, .ref a2), (3, .int v3_14), (4, .int v4_15), (8, .int v8_18)]) hc dX8_laysNth_119 rfl ci_1 (hN 9 rfl) (fun _ => rfl) rfl (fun v9_24 => ?_)
            refine w_goto (tgt := 67) hc dX8_laysNth_122 rfl ?_
            refine w_sub [3, 4, 5, 6, 1, 2, 7, 0] rfl ?_
            exact ih v6_23 v9_19 v9_24
          · refine w_iincB (q := 119) (i := 6) (j := 4) (lv' := fun v6_21 => [(6, .int v6_21), (0, .ref 43), (2, .ref a2), (3, .int v3_14), (4, .int v4_15), (7, .int v7_17), (8, .int v8_18), (9, .int v9_19)]) hc dX8_laysNth_116 rfl ci_m1 (hN 6 rfl) (fun _ => rfl) rfl (fun v6_21 => ?_)
            refine w_iincB (q := 122) (i := 9) (j := 7) (lv' := fun v9_22 => [(9, .int v9_22), (6, .int v6_21), (0, .ref 43), (2, .ref a2), (3, .int v3_14), (4, .int v4_15), (7, .int v7_17), (8, .int v8_18)]) hc dX8_laysNth_119 rfl ci_1 (hN 9 rfl) (fun _ => rfl) rfl (fun v9_22 => ?_)
            refine w_goto (tgt := 67) hc dX8_laysNth_122 rfl ?_
            refine w_sub [2, 3, 4, 5, 1, 6, 7, 0] rfl ?_
            exact ih v6_21 v7_17 v9_22
      · refine w_iincB (q := 122) (i := 9) (j := 7) (lv' := fun v9_20 => [(9, .int v9_20), (0, .ref 43), (2, .ref a2), (3, .int v3_14), (4, .int v4_15), (6, .int v6_16), (7, .int v7_17), (8, .int v8_18)]) hc dX8_laysNth_119 rfl ci_1 (hN 9 rfl) (fun _ => rfl) rfl (fun v9_20 => ?_)
        refine w_goto (tgt := 67) hc dX8_laysNth_122 rfl ?_
        refine w_sub [1, 2, 3, 4, 5, 6, 7, 0] rfl ?_
        exact ih v6_16 v7_17 v9_20
set_option maxRecDepth 100000 in
set_option maxHeartbeats 4000000 in
theorem wl_X8_laysNth_49 {G : GT Mm} {rm : Nat} (a2 : Nat) (v3_9 : Int32) (v4_10 : Int32) (I : MI) (L : ML) (hc : Cx G cX8_laysNth yX8_laysNth.cls none 2 48) (hq : RetQ G anV meV) (hK : gK G = lK rm) (hR : gR G = lR rm) (hn : gnL G = 10) (ha2 : (lK rm)[a2]? = some (10, 10)) (k0 : Int32 → Option Mm) (hk0 : ∀ (v7_29 : Int32), WW G 131 [(0, .ref 43), (2, .ref a2), (3, .int v3_9), (4, .int v4_10), (7, .int v7_29)] [] I L (k0 v7_29)) : ∀ (n : Nat) (v6_11 : Int32) (v7_12 : Int32) (v8_13 : Int32), WW G 49 [(0, .ref 43), (2, .ref a2), (3, .int v3_9), (4, .int v4_10), (6, .int v6_11), (7, .int v7_12), (8, .int v8_13)] [] I L (f_X8_laysNth_49 a2 v3_9 v4_10 I L k0 n v6_11 v7_12 v8_13) := by
  have hN : ∀ i, Nat.blt i 10 = true → i < gnL G := fun i h => hn ▸ Nat.blt_eq.mp h
  intro n
  induction n with
  | zero => intros; exact w_none _ _ _
  | succ n ih =>
    intros v6_11 v7_12 v8_13
    rw [f_X8_laysNth_49]
    refine w_iload (q := 51) (i := 8) (j := 6) hc dX8_laysNth_49 rfl rfl ?_
    refine w_aload_n (q := 52) (i := 0) (j := 0) hc dX8_laysNth_51 rfl rfl rfl ?_
    refine gf_X8_118 (q := 55) hc dX8_laysNth_52 (k_43 hK) rfl ?_
    refine w_icmpge (q := 58) (tgt := 131) hc dX8_laysNth_55 rfl rfl ?_ ?_
    · refine w_sub [0, 1, 2, 3, 5] rfl ?_
      exact hk0 v7_12
    · refine w_iload (q := 60) (i := 7) (j := 5) hc dX8_laysNth_58 rfl rfl ?_
      refine w_iconst (q := 61) hc dX8_laysNth_60 ci_m1 rfl ?_
      refine w_icmpne (q := 64) (tgt := 131) hc dX8_laysNth_61 rfl rfl ?_ ?_
      · refine w_iconst (q := 65) hc dX8_laysNth_64 ci_0 rfl ?_
        refine w_istore (q := 67) (i := 9) (lv' := [(9, .int 0), (0, .ref 43), (2, .ref a2), (3, .int v3_9), (4, .int v4_10), (6, .int v6_11), (7, .int v7_12), (8, .int v8_13)]) hc dX8_laysNth_65 (hN 9 rfl) rfl rfl ?_
        refine w_sub [1, 2, 3, 4, 5, 6, 7, 0] rfl ?_
        refine wl_X8_laysNth_67 a2 v3_9 v4_10 v8_13 I L hc hq hK hR hn ha2 _ ?_ FU v6_11 v7_12 0
        intro v6_26 v7_27
        refine w_iincB (q := 128) (i := 8) (j := 6) (lv' := fun v8_28 => [(8, .int v8_28), (0, .ref 43), (2, .ref a2), (3, .int v3_9), (4, .int v4_10), (6, .int v6_26), (7, .int v7_27)]) hc dX8_laysNth_125 rfl ci_1 (hN 8 rfl) (fun _ => rfl) rfl (fun v8_28 => ?_)
        refine w_goto (tgt := 49) hc dX8_laysNth_128 rfl ?_
        refine w_sub [1, 2, 3, 4, 5, 6, 0] rfl ?_
        exact ih v6_26 v7_27 v8_28
      · refine w_sub [0, 1, 2, 3, 5] rfl ?_
        exact hk0 v7_12
set_option maxRecDepth 100000 in
set_option maxHeartbeats 4000000 in
theorem wl_X8_laysNth_12 {G : GT Mm} {rm : Nat} (a2 : Nat) (hc : Cx G cX8_laysNth yX8_laysNth.cls none 2 48) (hq : RetQ G anV meV) (hK : gK G = lK rm) (hR : gR G = lR rm) (hn : gnL G = 10) (ha2 : (lK rm)[a2]? = some (10, 10)) (k0 : MI → ML → Option Mm) (hk0 : ∀ (I_34 : MI) (L_35 : ML), WW G 178 [(0, .ref 43), (2, .ref a2)] [] I_34 L_35 (k0 I_34 L_35)) : ∀ (n : Nat) (v3_2 : Int32) (v4_3 : Int32) (I_4 : MI) (L_5 : ML), WW G 12 [(0, .ref 43), (2, .ref a2), (3, .int v3_2), (4, .int v4_3)] [] I_4 L_5 (f_X8_laysNth_12 a2 k0 n v3_2 v4_3 I_4 L_5) := by
  have hN : ∀ i, Nat.blt i 10 = true → i < gnL G := fun i h => hn ▸ Nat.blt_eq.mp h
  intro n
  induction n with
  | zero => intros; exact w_none _ _ _
  | succ n ih =>
    intros v3_2 v4_3 I_4 L_5
    rw [f_X8_laysNth_12]
    refine w_iload (q := 14) (i := 4) (j := 3) hc dX8_laysNth_12 rfl rfl ?_
    refine w_aload_n (q := 15) (i := 0) (j := 0) hc dX8_laysNth_14 rfl rfl rfl ?_
    refine gf_X8_118 (q := 18) hc dX8_laysNth_15 (k_43 hK) rfl ?_
    refine w_icmpge (q := 21) (tgt := 178) hc dX8_laysNth_18 rfl rfl ?_ ?_
    · refine w_sub [0, 1] rfl ?_
      exact hk0 I_4 L_5
    · refine w_aload_n (q := 22) (i := 0) (j := 0) hc dX8_laysNth_21 rfl rfl rfl ?_
      refine w_iconst (q := 23) hc dX8_laysNth_22 ci_0 rfl ?_
      refine w_iload (q := 25) (i := 4) (j := 3) hc dX8_laysNth_23 rfl rfl ?_
      refine w_iconst (q := 26) hc dX8_laysNth_25 ci_1 rfl ?_
      refine w_iadd (q := 27) hc dX8_laysNth_26  rfl ?_
      refine w_callV_Ri (q := 30) (st := []) (args := [.int 0, .int (v4_3 + 1)]) (p := 43) hc (m_X8_orderFrom hK hR) dX8_laysNth_27 ml_X8_168 cf_X8_orderFrom iv_X8_orderFrom (k_43 hK) (C := RX8) (T := TX8) (N := 45) rfl rfl (Nat.lt_of_succ_le (Nat.le_of_ble_eq_true rfl)) rfl rfl (Nat.le_of_ble_eq_true rfl) ⟨Nat.le_of_ble_eq_true rfl, Nat.le_of_ble_eq_true rfl⟩ rfl (fun q_6 => ?_)
      refine w_istore (q := 32) (i := 5) (lv' := [(5, .int q_6), (0, .ref 43), (2, .ref a2), (3, .int v3_2), (4, .int v4_3)]) hc dX8_laysNth_30 (hN 5 rfl) rfl rfl ?_
      refine w_iload_n (q := 33) (i := 3) (j := 3) hc dX8_laysNth_32 rfl rfl rfl ?_
      refine w_iload (q := 35) (i := 5) (j := 0) hc dX8_laysNth_33 rfl rfl ?_
      refine w_idiv (q := 36) hc dX8_laysNth_35  rfl ?_
      refine w_istoreB (q := 38) (i := 6) (lv' := fun v6_7 => [(6, .int v6_7), (5, .int q_6), (0, .ref 43), (2, .ref a2), (3, .int v3_2), (4, .int v4_3)]) hc dX8_laysNth_36 (hN 6 rfl) (fun _ => rfl) rfl (fun v6_7 => ?_)
      refine w_iload_n (q := 39) (i := 3) (j := 4) hc dX8_laysNth_38 rfl rfl rfl ?_
      refine w_iload (q := 41) (i := 5) (j := 1) hc dX8_laysNth_39 rfl rfl ?_
      refine w_irem (q := 42) hc dX8_laysNth_41  rfl ?_
      refine w_istore_nB (q := 43) (i := 3) (lv' := fun v3_8 => [(3, .int v3_8), (6, .int v6_7), (5, .int q_6), (0, .ref 43), (2, .ref a2), (4, .int v4_3)]) hc dX8_laysNth_42 rfl (hN 3 rfl) (fun _ => rfl) rfl (fun v3_8 => ?_)
      refine w_iconst (q := 44) hc dX8_laysNth_43 ci_m1 rfl ?_
      refine w_istore (q := 46) (i := 7) (lv' := [(7, .int (-1)), (3, .int v3_8), (6, .int v6_7), (5, .int q_6), (0, .ref 43), (2, .ref a2), (4, .int v4_3)]) hc dX8_laysNth_44 (hN 7 rfl) rfl rfl ?_
      refine w_iconst (q := 47) hc dX8_laysNth_46 ci_0 rfl ?_
      refine w_istore (q := 49) (i := 8) (lv' := [(8, .int 0), (7, .int (-1)), (3, .int v3_8), (6, .int v6_7), (5, .int q_6), (0, .ref 43), (2, .ref a2), (4, .int v4_3)]) hc dX8_laysNth_47 (hN 8 rfl) rfl rfl ?_
      refine w_sub [5, 6, 2, 7, 3, 1, 0] rfl ?_
      refine wl_X8_laysNth_49 a2 v3_8 v4_3 I_4 L_5 hc hq hK hR hn ha2 _ ?_ FU v6_7 (-1) 0
      intro v7_29
      refine w_aload_n (q := 132) (i := 0) (j := 0) hc dX8_laysNth_131 rfl rfl rfl ?_
      refine w_iconst (q := 133) hc dX8_laysNth_132 ci_0 rfl ?_
      refine w_iload (q := 135) (i := 4) (j := 3) hc dX8_laysNth_133 rfl rfl ?_
      refine w_iload (q := 137) (i := 7) (j := 4) hc dX8_laysNth_135 rfl rfl ?_
      refine w_aload_n (q := 138) (i := 0) (j := 0) hc dX8_laysNth_137 rfl rfl rfl ?_
      refine gf_X8_50 (q := 141) hc dX8_laysNth_138 (k_43 hK) (r_43_17 hR) rfl ?_
      refine w_callV_Wv (q := 144) (st := []) (args := [.int 0, .int v4_3, .int v7_29, .ref 57]) (p := 43) hc (m_X8_laysCell hK hR (kB hK (k_57 hK))) dX8_laysNth_141 ml_X8_134 cf_X8_laysCell iv_X8_laysCell (k_43 hK) (C := RX8) (T := TX8) (N := 45) rfl rfl (Nat.lt_of_succ_le (Nat.le_of_ble_eq_true rfl)) rfl rfl (Nat.le_of_ble_eq_true rfl) ⟨Nat.le_of_ble_eq_true rfl, Nat.le_of_ble_eq_true rfl⟩ rfl (fun q_30 => ?_)
      refine w_aload_n (q := 145) (i := 0) (j := 0) hc dX8_laysNth_144 rfl rfl rfl ?_
      refine gf_X8_56 (q := 148) hc dX8_laysNth_145 (k_43 hK) (r_43_19 hR) rfl ?_
      refine w_iconst (q := 149) hc dX8_laysNth_148 ci_0 rfl ?_
      refine w_aload_n (q := 150) (i := 0) (j := 0) hc dX8_laysNth_149 rfl rfl rfl ?_
      refine gf_X8_53 (q := 153) hc dX8_laysNth_150 (k_43 hK) (r_43_18 hR) rfl ?_
      refine w_iconst (q := 154) hc dX8_laysNth_153 ci_0 rfl ?_
      refine w_callS_Wv (q := 157) (st := []) (args := [.ref 59, .int 0, .ref 58, .int 0]) hc (m_X8_copies hK hR (kB hK (k_59 hK)) (kB hK (k_58 hK))) dX8_laysNth_154 ml_X8_100 cf_X8_copies st_X8_copies rfl rfl (Nat.le_of_ble_eq_true rfl) ⟨Nat.le_of_ble_eq_true rfl, Nat.le_of_ble_eq_true rfl⟩ rfl (fun q_31 => ?_)
      refine w_aload_n (q := 158) (i := 0) (j := 0) hc dX8_laysNth_157 rfl rfl rfl ?_
      refine gf_X8_50 (q := 161) hc dX8_laysNth_158 (k_43 hK) (r_43_17 hR) rfl ?_
      refine w_aload_n (q := 162) (i := 0) (j := 0) hc dX8_laysNth_161 rfl rfl rfl ?_
      refine gf_X8_53 (q := 165) hc dX8_laysNth_162 (k_43 hK) (r_43_18 hR) rfl ?_
      refine w_aload_n (q := 166) (i := 0) (j := 0) hc dX8_laysNth_165 rfl rfl rfl ?_
      refine gf_X8_56 (q := 169) hc dX8_laysNth_166 (k_43 hK) (r_43_19 hR) rfl ?_
      refine w_callS_Wv (q := 172) (st := []) (args := [.ref 57, .ref 58, .ref 59]) hc (m_X8_makes hK hR (kB hK (k_57 hK)) (kB hK (k_58 hK)) (kB hK (k_59 hK))) dX8_laysNth_169 ml_X8_138 cf_X8_makes st_X8_makes rfl rfl (Nat.le_of_ble_eq_true rfl) ⟨Nat.le_of_ble_eq_true rfl, Nat.le_of_ble_eq_true rfl⟩ rfl (fun q_32 => ?_)
      refine w_iincB (q := 175) (i := 4) (j := 3) (lv' := fun v4_33 => [(4, .int v4_33), (0, .ref 43), (2, .ref a2), (3, .int v3_8), (7, .int v7_29)]) hc dX8_laysNth_172 rfl ci_1 (hN 4 rfl) (fun _ => rfl) rfl (fun v4_33 => ?_)
      refine w_goto (tgt := 12) hc dX8_laysNth_175 rfl ?_
      refine w_sub [1, 2, 3, 0] rfl ?_
      exact ih v3_8 v4_33 q_32.1 q_32.2
set_option maxRecDepth 100000 in
set_option maxHeartbeats 4000000 in
theorem m_X8_laysNth {l : Launch} {K : KT} {R : MR} {rm : Nat} {a1 : Int32} {a2 : Nat} {I : MI} {L : ML} (hK0 : K = lK rm) (hR0 : R = lR rm) (ha2 : (lK rm)[a2]? = some (10, 10)) : MFg l yX8_laysNth cX8_laysNth 10 none 2 48 [.ref 43, .int a1, .ref a2] K R I L anV meV (f_X8_laysNth a1 a2 I L) := by
  refine mf_of (plainFor_of_name (by decide)) (Nat.le_of_ble_eq_true rfl) ?_
  intro G hc _ hK1 hR1 hn hq
  have hK := hK1.trans hK0
  have hR := hR1.trans hR0
  have hN : ∀ i, Nat.blt i 10 = true → i < gnL G := fun i h => hn ▸ Nat.blt_eq.mp h
  unfold f_X8_laysNth
  show WW G 0 [(0, .ref 43), (1, .int a1), (2, .ref a2)] [] I L _
  refine w_aload_n (q := 1) (i := 0) (j := 0) hc dX8_laysNth_0 rfl rfl rfl ?_
  refine gf_X8_56 (q := 4) hc dX8_laysNth_1 (k_43 hK) (r_43_19 hR) rfl ?_
  refine w_callS_Wv (q := 7) (st := []) (args := [.ref 59]) hc (m_X8_isHome hK hR (kB hK (k_59 hK))) dX8_laysNth_4 ml_X8_96 cf_X8_isHome st_X8_isHome rfl rfl (Nat.le_of_ble_eq_true rfl) ⟨Nat.le_of_ble_eq_true rfl, Nat.le_of_ble_eq_true rfl⟩ rfl (fun q_1 => ?_)
  refine w_iload_n (q := 8) (i := 1) (j := 1) hc dX8_laysNth_7 rfl rfl rfl ?_
  refine w_istore_n (q := 9) (i := 3) (lv' := [(3, .int a1), (0, .ref 43), (1, .int a1), (2, .ref a2)]) hc dX8_laysNth_8 rfl (hN 3 rfl) rfl rfl ?_
  refine w_iconst (q := 10) hc dX8_laysNth_9 ci_0 rfl ?_
  refine w_istore (q := 12) (i := 4) (lv' := [(4, .int 0), (3, .int a1), (0, .ref 43), (1, .int a1), (2, .ref a2)]) hc dX8_laysNth_10 (hN 4 rfl) rfl rfl ?_
  refine w_sub [2, 4, 1, 0] rfl ?_
  refine wl_X8_laysNth_12 a2 hc hq hK hR hn ha2 _ ?_ FU a1 0 q_1.1 q_1.2
  intro I_34 L_35
  refine w_aload_n (q := 179) (i := 0) (j := 0) hc dX8_laysNth_178 rfl rfl rfl ?_
  refine gf_X8_56 (q := 182) hc dX8_laysNth_179 (k_43 hK) (r_43_19 hR) rfl ?_
  refine w_iconst (q := 183) hc dX8_laysNth_182 ci_0 rfl ?_
  refine w_aload_n (q := 184) (i := 2) (j := 1) hc dX8_laysNth_183 rfl rfl rfl ?_
  refine w_iconst (q := 185) hc dX8_laysNth_184 ci_0 rfl ?_
  refine w_callS_Wv (q := 188) (st := []) (args := [.ref 59, .int 0, .ref a2, .int 0]) hc (m_X8_copies hK hR (kB hK (k_59 hK)) (kB hK (kA hK ha2))) dX8_laysNth_185 ml_X8_100 cf_X8_copies st_X8_copies rfl rfl (Nat.le_of_ble_eq_true rfl) ⟨Nat.le_of_ble_eq_true rfl, Nat.le_of_ble_eq_true rfl⟩ rfl (fun q_36 => ?_)
  exact w_return hc hq dX8_laysNth_188 rfl rfl
set_option maxRecDepth 100000 in
set_option maxHeartbeats 4000000 in
theorem m_X8_many {l : Launch} {K : KT} {R : MR} {rm : Nat} {a1 : Int32} {I : MI} {L : ML} (hK0 : K = lK rm) (hR0 : R = lR rm) : MFg l yX8_many cX8_many 2 (some .int) 2 45 [.ref 43, .int a1] K R I L anIW meW (f_X8_many a1 I L) := by
  refine mf_of (plainFor_of_name (by decide)) (Nat.le_of_ble_eq_true rfl) ?_
  intro G hc _ hK1 hR1 hn hq
  have hK := hK1.trans hK0
  have hR := hR1.trans hR0
  have hN : ∀ i, Nat.blt i 2 = true → i < gnL G := fun i h => hn ▸ Nat.blt_eq.mp h
  unfold f_X8_many
  show WW G 0 [(0, .ref 43), (1, .int a1)] [] I L _
  refine w_aload_n (q := 1) (i := 0) (j := 0) hc dX8_many_0 rfl rfl rfl ?_
  refine w_iload_n (q := 2) (i := 1) (j := 1) hc dX8_many_1 rfl rfl rfl ?_
  refine w_i2l (q := 3) hc dX8_many_2  rfl ?_
  refine w_lconst (q := 4) hc dX8_many_3 cl_0 rfl ?_
  refine w_ldc2 (q := 7) hc dX8_many_4 kl_X8_192 rfl ?_
  refine w_callS_Rz (q := 10) (st := [.ref 43]) (args := [.long (Int32.toInt64 a1), .long 0, .long 3]) hc (m_X8_isIn hK hR) dX8_many_7 ml_X8_114 cf_X8_isIn st_X8_isIn rfl rfl (Nat.le_of_ble_eq_true rfl) ⟨Nat.le_of_ble_eq_true rfl, Nat.le_of_ble_eq_true rfl⟩ rfl (fun q_1 => ?_)
  refine w_join (fun j18_209 : Bool → Option (Int32 × Mm) => ∀ (s0_2 : Bool), WW G 18 [(0, .ref 43), (1, .int a1)] [.int (b2i s0_2), .ref 43] I L (j18_209 s0_2)) ?_ ?_
  · intro s0_2
    refine w_callV_Wz (q := 21) (st := []) (args := [.int (b2i s0_2)]) (p := 43) hc (m_X8_is hK hR) dX8_many_18 ml_X8_194 cf_X8_is iv_X8_is (k_43 hK) (C := RX8) (T := TX8) (N := 45) rfl rfl (Nat.lt_of_succ_le (Nat.le_of_ble_eq_true rfl)) rfl rfl (Nat.le_of_ble_eq_true rfl) ⟨Nat.le_of_ble_eq_true rfl, Nat.le_of_ble_eq_true rfl⟩ rfl (fun q_3 => ?_)
    refine w_ifne (q := 24) (tgt := 26) hc dX8_many_21 rfl rfl ?_ ?_
    · refine w_iconst (q := 25) hc dX8_many_24 ci_m1 rfl ?_
      exact w_ireturn (v := (-1)) hc hq dX8_many_25 rfl rfl rfl
    · refine w_aload_n (q := 27) (i := 0) (j := 0) hc dX8_many_26 rfl rfl rfl ?_
      refine w_aload_n (q := 28) (i := 0) (j := 0) hc dX8_many_27 rfl rfl rfl ?_
      refine gf_X8_16 (q := 31) hc dX8_many_28 (k_43 hK) (r_43_6 hR) rfl ?_
      refine w_callV_Wv (q := 34) (st := []) (args := [.ref 46]) (p := 43) hc (m_X8_laysStand hK hR (kB hK (k_46 hK))) dX8_many_31 ml_X8_198 cf_X8_laysStand iv_X8_laysStand (k_43 hK) (C := RX8) (T := TX8) (N := 45) rfl rfl (Nat.lt_of_succ_le (Nat.le_of_ble_eq_true rfl)) rfl rfl (Nat.le_of_ble_eq_true rfl) ⟨Nat.le_of_ble_eq_true rfl, Nat.le_of_ble_eq_true rfl⟩ rfl (fun q_4 => ?_)
      refine w_iload_n (q := 35) (i := 1) (j := 1) hc dX8_many_34 rfl rfl rfl ?_
      refine w_ifne (q := 38) (tgt := 45) hc dX8_many_35 rfl rfl ?_ ?_
      · refine w_aload_n (q := 39) (i := 0) (j := 0) hc dX8_many_38 rfl rfl rfl ?_
        refine gf_X8_118 (q := 42) hc dX8_many_39 (k_43 hK) rfl ?_
        refine w_goto (tgt := 84) hc dX8_many_42 rfl ?_
        exact w_ireturn (v := (q_4.1 43 2)) hc hq dX8_many_84 rfl rfl rfl
      · refine w_iload_n (q := 46) (i := 1) (j := 1) hc dX8_many_45 rfl rfl rfl ?_
        refine w_iconst (q := 47) hc dX8_many_46 ci_1 rfl ?_
        refine w_icmpne (q := 50) (tgt := 57) hc dX8_many_47 rfl rfl ?_ ?_
        · refine w_aload_n (q := 51) (i := 0) (j := 0) hc dX8_many_50 rfl rfl rfl ?_
          refine w_callV_Ri (q := 54) (st := []) (args := []) (p := 43) hc (m_X8_moves hK hR) dX8_many_51 ml_X8_110 cf_X8_moves iv_X8_moves (k_43 hK) (C := RX8) (T := TX8) (N := 45) rfl rfl (Nat.lt_of_succ_le (Nat.le_of_ble_eq_true rfl)) rfl rfl (Nat.le_of_ble_eq_true rfl) ⟨Nat.le_of_ble_eq_true rfl, Nat.le_of_ble_eq_true rfl⟩ rfl (fun q_6 => ?_)
          refine w_goto (tgt := 84) hc dX8_many_54 rfl ?_
          exact w_ireturn (v := q_6) hc hq dX8_many_84 rfl rfl rfl
        · refine w_iload_n (q := 58) (i := 1) (j := 1) hc dX8_many_57 rfl rfl rfl ?_
          refine w_iconst (q := 59) hc dX8_many_58 ci_2 rfl ?_
          refine w_icmpne (q := 62) (tgt := 69) hc dX8_many_59 rfl rfl ?_ ?_
          · refine w_aload_n (q := 63) (i := 0) (j := 0) hc dX8_many_62 rfl rfl rfl ?_
            refine gf_X8_121 (q := 66) hc dX8_many_63 (k_43 hK) rfl ?_
            refine w_goto (tgt := 84) hc dX8_many_66 rfl ?_
            exact w_ireturn (v := (q_4.1 43 3)) hc hq dX8_many_84 rfl rfl rfl
          · refine w_aload_n (q := 70) (i := 0) (j := 0) hc dX8_many_69 rfl rfl rfl ?_
            refine gf_X8_16 (q := 73) hc dX8_many_70 (k_43 hK) (r_43_6 hR) rfl ?_
            refine w_callS_Rz (q := 76) (st := []) (args := [.ref 46]) hc (m_X8_stays hK hR (kB hK (k_46 hK))) dX8_many_73 ml_X8_201 cf_X8_stays st_X8_stays rfl rfl (Nat.le_of_ble_eq_true rfl) ⟨Nat.le_of_ble_eq_true rfl, Nat.le_of_ble_eq_true rfl⟩ rfl (fun q_5 => ?_)
            refine w_ifeq (q := 79) (tgt := 83) hc dX8_many_76 rfl rfl ?_ ?_
            · refine w_iconst (q := 84) hc dX8_many_83 ci_0 rfl ?_
              exact w_ireturn (v := 0) hc hq dX8_many_84 rfl rfl rfl
            · refine w_iconst (q := 80) hc dX8_many_79 ci_1 rfl ?_
              refine w_goto (tgt := 84) hc dX8_many_80 rfl ?_
              exact w_ireturn (v := 1) hc hq dX8_many_84 rfl rfl rfl
  · intro j18_209 hj18_209
    refine w_ifeq (q := 13) (tgt := 17) hc dX8_many_10 rfl rfl ?_ ?_
    · refine w_iconst (q := 18) hc dX8_many_17 ci_1 rfl ?_
      exact hj18_209 true
    · refine w_iconst (q := 14) hc dX8_many_13 ci_0 rfl ?_
      refine w_goto (tgt := 18) hc dX8_many_14 rfl ?_
      exact hj18_209 false
set_option maxRecDepth 100000 in
set_option maxHeartbeats 4000000 in
theorem m_X8_step {l : Launch} {K : KT} {R : MR} {rm : Nat} {a1 : Int32} {I : MI} {L : ML} (hK0 : K = lK rm) (hR0 : R = lR rm) : MFg l yX8_step cX8_step 2 (some .long) 3 68 [.ref 43, .int a1] K R I L anLW meW (f_X8_step a1 I L) := by
  refine mf_of (plainFor_of_name (by decide)) (Nat.le_of_ble_eq_true rfl) ?_
  intro G hc _ hK1 hR1 hn hq
  have hK := hK1.trans hK0
  have hR := hR1.trans hR0
  have hN : ∀ i, Nat.blt i 2 = true → i < gnL G := fun i h => hn ▸ Nat.blt_eq.mp h
  unfold f_X8_step
  show WW G 0 [(0, .ref 43), (1, .int a1)] [] I L _
  refine w_aload_n (q := 1) (i := 0) (j := 0) hc dX8_step_0 rfl rfl rfl ?_
  refine w_aload_n (q := 2) (i := 0) (j := 0) hc dX8_step_1 rfl rfl rfl ?_
  refine w_iload_n (q := 3) (i := 1) (j := 1) hc dX8_step_2 rfl rfl rfl ?_
  refine w_callV_Rz (q := 6) (st := [.ref 43]) (args := [.int a1]) (p := 43) hc (m_X8_isStep hK hR) dX8_step_3 ml_X8_205 cf_X8_isStep iv_X8_isStep (k_43 hK) (C := RX8) (T := TX8) (N := 45) rfl rfl (Nat.lt_of_succ_le (Nat.le_of_ble_eq_true rfl)) rfl rfl (Nat.le_of_ble_eq_true rfl) ⟨Nat.le_of_ble_eq_true rfl, Nat.le_of_ble_eq_true rfl⟩ rfl (fun q_1 => ?_)
  refine w_join (fun j14_210 : Int32 → Option (Int64 × Mm) => ∀ (s0_2 : Int32), WW G 14 [(0, .ref 43), (1, .int a1)] [.int s0_2, .ref 43] I L (j14_210 s0_2)) ?_ ?_
  · intro s0_2
    refine w_callV_Wz (q := 17) (st := []) (args := [.int s0_2]) (p := 43) hc (m_X8_is hK hR) dX8_step_14 ml_X8_194 cf_X8_is iv_X8_is (k_43 hK) (C := RX8) (T := TX8) (N := 45) rfl rfl (Nat.lt_of_succ_le (Nat.le_of_ble_eq_true rfl)) rfl rfl (Nat.le_of_ble_eq_true rfl) ⟨Nat.le_of_ble_eq_true rfl, Nat.le_of_ble_eq_true rfl⟩ rfl (fun q_3 => ?_)
    refine w_ifne (q := 20) (tgt := 24) hc dX8_step_17 rfl rfl ?_ ?_
    · refine w_ldc2 (q := 23) hc dX8_step_20 kl_X8_208 rfl ?_
      exact w_lreturn hc hq dX8_step_23 rfl rfl
    · refine w_aload_n (q := 25) (i := 0) (j := 0) hc dX8_step_24 rfl rfl rfl ?_
      refine w_iload_n (q := 26) (i := 1) (j := 1) hc dX8_step_25 rfl rfl rfl ?_
      refine w_aload_n (q := 27) (i := 0) (j := 0) hc dX8_step_26 rfl rfl rfl ?_
      refine gf_X8_16 (q := 30) hc dX8_step_27 (k_43 hK) (r_43_6 hR) rfl ?_
      refine w_callV_Wv (q := 33) (st := []) (args := [.int a1, .ref 46]) (p := 43) hc (m_X8_laysStep hK hR (kB hK (k_46 hK))) dX8_step_30 ml_X8_210 cf_X8_laysStep iv_X8_laysStep (k_43 hK) (C := RX8) (T := TX8) (N := 45) rfl rfl (Nat.lt_of_succ_le (Nat.le_of_ble_eq_true rfl)) rfl rfl (Nat.le_of_ble_eq_true rfl) ⟨Nat.le_of_ble_eq_true rfl, Nat.le_of_ble_eq_true rfl⟩ rfl (fun q_4 => ?_)
      refine w_aload_n (q := 34) (i := 0) (j := 0) hc dX8_step_33 rfl rfl rfl ?_
      refine w_aload_n (q := 35) (i := 0) (j := 0) hc dX8_step_34 rfl rfl rfl ?_
      refine gf_X8_16 (q := 38) hc dX8_step_35 (k_43 hK) (r_43_6 hR) rfl ?_
      refine w_callV_Rl (q := 41) (st := []) (args := [.ref 46]) (p := 43) hc (m_X8_told hK hR (kB hK (k_46 hK))) dX8_step_38 ml_X8_213 cf_X8_told iv_X8_told (k_43 hK) (C := RX8) (T := TX8) (N := 45) rfl rfl (Nat.lt_of_succ_le (Nat.le_of_ble_eq_true rfl)) rfl rfl (Nat.le_of_ble_eq_true rfl) ⟨Nat.le_of_ble_eq_true rfl, Nat.le_of_ble_eq_true rfl⟩ rfl (fun q_5 => ?_)
      exact w_lreturn hc hq dX8_step_41 rfl rfl
  · intro j14_210 hj14_210
    refine w_ifeq (q := 9) (tgt := 13) hc dX8_step_6 rfl rfl ?_ ?_
    · refine w_iconst (q := 14) hc dX8_step_13 ci_2 rfl ?_
      exact hj14_210 2
    · refine w_iconst (q := 10) hc dX8_step_9 ci_0 rfl ?_
      refine w_goto (tgt := 14) hc dX8_step_10 rfl ?_
      exact hj14_210 0
set_option maxRecDepth 100000 in
set_option maxHeartbeats 4000000 in
theorem m_X8_stand {l : Launch} {K : KT} {R : MR} {rm : Nat} {I : MI} {L : ML} (hK0 : K = lK rm) (hR0 : R = lR rm) : MFg l yX8_stand cX8_stand 1 (some .long) 2 45 [.ref 43] K R I L anLW meW (f_X8_stand I L) := by
  refine mf_of (plainFor_of_name (by decide)) (Nat.le_of_ble_eq_true rfl) ?_
  intro G hc _ hK1 hR1 hn hq
  have hK := hK1.trans hK0
  have hR := hR1.trans hR0
  have hN : ∀ i, Nat.blt i 1 = true → i < gnL G := fun i h => hn ▸ Nat.blt_eq.mp h
  unfold f_X8_stand
  show WW G 0 [(0, .ref 43)] [] I L _
  refine w_aload_n (q := 1) (i := 0) (j := 0) hc dX8_stand_0 rfl rfl rfl ?_
  refine w_aload_n (q := 2) (i := 0) (j := 0) hc dX8_stand_1 rfl rfl rfl ?_
  refine gf_X8_118 (q := 5) hc dX8_stand_2 (k_43 hK) rfl ?_
  refine w_join (fun j13_211 : Int32 → Option (Int64 × Mm) => ∀ (s0_1 : Int32), WW G 13 [(0, .ref 43)] [.int s0_1, .ref 43] I L (j13_211 s0_1)) ?_ ?_
  · intro s0_1
    refine w_callV_Wz (q := 16) (st := []) (args := [.int s0_1]) (p := 43) hc (m_X8_is hK hR) dX8_stand_13 ml_X8_194 cf_X8_is iv_X8_is (k_43 hK) (C := RX8) (T := TX8) (N := 45) rfl rfl (Nat.lt_of_succ_le (Nat.le_of_ble_eq_true rfl)) rfl rfl (Nat.le_of_ble_eq_true rfl) ⟨Nat.le_of_ble_eq_true rfl, Nat.le_of_ble_eq_true rfl⟩ rfl (fun q_2 => ?_)
    refine w_ifne (q := 19) (tgt := 23) hc dX8_stand_16 rfl rfl ?_ ?_
    · refine w_ldc2 (q := 22) hc dX8_stand_19 kl_X8_208 rfl ?_
      exact w_lreturn hc hq dX8_stand_22 rfl rfl
    · refine w_aload_n (q := 24) (i := 0) (j := 0) hc dX8_stand_23 rfl rfl rfl ?_
      refine w_aload_n (q := 25) (i := 0) (j := 0) hc dX8_stand_24 rfl rfl rfl ?_
      refine gf_X8_16 (q := 28) hc dX8_stand_25 (k_43 hK) (r_43_6 hR) rfl ?_
      refine w_callV_Wv (q := 31) (st := []) (args := [.ref 46]) (p := 43) hc (m_X8_laysStand hK hR (kB hK (k_46 hK))) dX8_stand_28 ml_X8_198 cf_X8_laysStand iv_X8_laysStand (k_43 hK) (C := RX8) (T := TX8) (N := 45) rfl rfl (Nat.lt_of_succ_le (Nat.le_of_ble_eq_true rfl)) rfl rfl (Nat.le_of_ble_eq_true rfl) ⟨Nat.le_of_ble_eq_true rfl, Nat.le_of_ble_eq_true rfl⟩ rfl (fun q_3 => ?_)
      refine w_aload_n (q := 32) (i := 0) (j := 0) hc dX8_stand_31 rfl rfl rfl ?_
      refine w_aload_n (q := 33) (i := 0) (j := 0) hc dX8_stand_32 rfl rfl rfl ?_
      refine gf_X8_16 (q := 36) hc dX8_stand_33 (k_43 hK) (r_43_6 hR) rfl ?_
      refine w_callV_Rl (q := 39) (st := []) (args := [.ref 46]) (p := 43) hc (m_X8_told hK hR (kB hK (k_46 hK))) dX8_stand_36 ml_X8_213 cf_X8_told iv_X8_told (k_43 hK) (C := RX8) (T := TX8) (N := 45) rfl rfl (Nat.lt_of_succ_le (Nat.le_of_ble_eq_true rfl)) rfl rfl (Nat.le_of_ble_eq_true rfl) ⟨Nat.le_of_ble_eq_true rfl, Nat.le_of_ble_eq_true rfl⟩ rfl (fun q_4 => ?_)
      exact w_lreturn hc hq dX8_stand_39 rfl rfl
  · intro j13_211 hj13_211
    refine w_ifne (q := 8) (tgt := 12) hc dX8_stand_5 rfl rfl ?_ ?_
    · refine w_iconst (q := 9) hc dX8_stand_8 ci_5 rfl ?_
      refine w_goto (tgt := 13) hc dX8_stand_9 rfl ?_
      exact hj13_211 5
    · refine w_iconst (q := 13) hc dX8_stand_12 ci_0 rfl ?_
      exact hj13_211 0
set_option maxRecDepth 100000 in
set_option maxHeartbeats 4000000 in
theorem m_X8_takes {l : Launch} {K : KT} {R : MR} {rm : Nat} {a1 : Int64} {a3 : Int32} {I : MI} {L : ML} (hK0 : K = lK rm) (hR0 : R = lR rm) : MFg l yX8_takes cX8_takes 4 (some .int) 2 48 [.ref 43, .long a1, .int a3] K R I L anIW meW (f_X8_takes a1 a3 I L) := by
  refine mf_of (plainFor_of_name (by decide)) (Nat.le_of_ble_eq_true rfl) ?_
  intro G hc _ hK1 hR1 hn hq
  have hK := hK1.trans hK0
  have hR := hR1.trans hR0
  have hN : ∀ i, Nat.blt i 4 = true → i < gnL G := fun i h => hn ▸ Nat.blt_eq.mp h
  unfold f_X8_takes
  show WW G 0 [(0, .ref 43), (1, .long a1), (3, .int a3)] [] I L _
  refine w_aload_n (q := 1) (i := 0) (j := 0) hc dX8_takes_0 rfl rfl rfl ?_
  refine w_aload_n (q := 2) (i := 0) (j := 0) hc dX8_takes_1 rfl rfl rfl ?_
  refine w_lload_n (q := 3) (i := 1) (j := 1) hc dX8_takes_2 rfl rfl rfl ?_
  refine w_aload_n (q := 4) (i := 0) (j := 0) hc dX8_takes_3 rfl rfl rfl ?_
  refine gf_X8_16 (q := 7) hc dX8_takes_4 (k_43 hK) (r_43_6 hR) rfl ?_
  refine w_callV_Wz (q := 10) (st := [.ref 43]) (args := [.long a1, .ref 46]) (p := 43) hc (m_X8_lies hK hR (kB hK (k_46 hK))) dX8_takes_7 ml_X8_217 cf_X8_lies iv_X8_lies (k_43 hK) (C := RX8) (T := TX8) (N := 45) rfl rfl (Nat.lt_of_succ_le (Nat.le_of_ble_eq_true rfl)) rfl rfl (Nat.le_of_ble_eq_true rfl) ⟨Nat.le_of_ble_eq_true rfl, Nat.le_of_ble_eq_true rfl⟩ rfl (fun q_1 => ?_)
  refine w_aload_n (q := 11) (i := 0) (j := 0) hc dX8_takes_10 rfl rfl rfl ?_
  refine w_iload_n (q := 12) (i := 3) (j := 2) hc dX8_takes_11 rfl rfl rfl ?_
  refine w_callV_Rz (q := 15) (st := [.int (b2i q_1.1), .ref 43]) (args := [.int a3]) (p := 43) hc (m_X8_isPoint hK hR) dX8_takes_12 ml_X8_221 cf_X8_isPoint iv_X8_isPoint (k_43 hK) (C := RX8) (T := TX8) (N := 45) rfl rfl (Nat.lt_of_succ_le (Nat.le_of_ble_eq_true rfl)) rfl rfl (Nat.le_of_ble_eq_true rfl) ⟨Nat.le_of_ble_eq_true rfl, Nat.le_of_ble_eq_true rfl⟩ rfl (fun q_2 => ?_)
  refine w_callS_Ri (q := 18) (st := [.ref 43]) (args := [.int (b2i q_1.1), .int (b2i q_2)]) hc (m_X8_why hK hR) dX8_takes_15 ml_X8_224 cf_X8_why st_X8_why rfl rfl (Nat.le_of_ble_eq_true rfl) ⟨Nat.le_of_ble_eq_true rfl, Nat.le_of_ble_eq_true rfl⟩ rfl (fun q_3 => ?_)
  refine w_callV_Wz (q := 21) (st := []) (args := [.int q_3]) (p := 43) hc (m_X8_is hK hR) dX8_takes_18 ml_X8_194 cf_X8_is iv_X8_is (k_43 hK) (C := RX8) (T := TX8) (N := 45) rfl rfl (Nat.lt_of_succ_le (Nat.le_of_ble_eq_true rfl)) rfl rfl (Nat.le_of_ble_eq_true rfl) ⟨Nat.le_of_ble_eq_true rfl, Nat.le_of_ble_eq_true rfl⟩ rfl (fun q_4 => ?_)
  refine w_ifeq (q := 24) (tgt := 33) hc dX8_takes_21 rfl rfl ?_ ?_
  · refine w_iconst (q := 34) hc dX8_takes_33 ci_m1 rfl ?_
    exact w_ireturn (v := (-1)) hc hq dX8_takes_34 rfl rfl rfl
  · refine w_aload_n (q := 25) (i := 0) (j := 0) hc dX8_takes_24 rfl rfl rfl ?_
    refine gf_X8_16 (q := 28) hc dX8_takes_25 (k_43 hK) (r_43_6 hR) rfl ?_
    refine w_iload_n (q := 29) (i := 3) (j := 2) hc dX8_takes_28 rfl rfl rfl ?_
    refine w_iald (q := 30) hc dX8_takes_29 (k_46 hK) rfl ?_
    refine w_goto (tgt := 34) hc dX8_takes_30 rfl ?_
    exact w_ireturn (v := (q_4.2.1 46 (ix a3))) hc hq dX8_takes_34 rfl rfl rfl
set_option maxRecDepth 100000 in
set_option maxHeartbeats 4000000 in
theorem m_X8_product {l : Launch} {K : KT} {R : MR} {rm : Nat} {a1 : Int64} {a3 : Int64} {I : MI} {L : ML} (hK0 : K = lK rm) (hR0 : R = lR rm) : MFg l yX8_product cX8_product 5 (some .long) 2 48 [.ref 43, .long a1, .long a3] K R I L anLW meW (f_X8_product a1 a3 I L) := by
  refine mf_of (plainFor_of_name (by decide)) (Nat.le_of_ble_eq_true rfl) ?_
  intro G hc _ hK1 hR1 hn hq
  have hK := hK1.trans hK0
  have hR := hR1.trans hR0
  have hN : ∀ i, Nat.blt i 5 = true → i < gnL G := fun i h => hn ▸ Nat.blt_eq.mp h
  unfold f_X8_product
  show WW G 0 [(0, .ref 43), (1, .long a1), (3, .long a3)] [] I L _
  refine w_aload_n (q := 1) (i := 0) (j := 0) hc dX8_product_0 rfl rfl rfl ?_
  refine w_aload_n (q := 2) (i := 0) (j := 0) hc dX8_product_1 rfl rfl rfl ?_
  refine w_lload_n (q := 3) (i := 1) (j := 1) hc dX8_product_2 rfl rfl rfl ?_
  refine w_aload_n (q := 4) (i := 0) (j := 0) hc dX8_product_3 rfl rfl rfl ?_
  refine gf_X8_16 (q := 7) hc dX8_product_4 (k_43 hK) (r_43_6 hR) rfl ?_
  refine w_callV_Wz (q := 10) (st := [.ref 43]) (args := [.long a1, .ref 46]) (p := 43) hc (m_X8_lies hK hR (kB hK (k_46 hK))) dX8_product_7 ml_X8_217 cf_X8_lies iv_X8_lies (k_43 hK) (C := RX8) (T := TX8) (N := 45) rfl rfl (Nat.lt_of_succ_le (Nat.le_of_ble_eq_true rfl)) rfl rfl (Nat.le_of_ble_eq_true rfl) ⟨Nat.le_of_ble_eq_true rfl, Nat.le_of_ble_eq_true rfl⟩ rfl (fun q_1 => ?_)
  refine w_join (fun j30_212 : Bool → MI → ML → Option (Int64 × Mm) => ∀ (s0_5 : Bool) (I_6 : MI) (L_7 : ML), WW G 30 [(0, .ref 43)] [.int (b2i s0_5), .ref 43] I_6 L_7 (j30_212 s0_5 I_6 L_7)) ?_ ?_
  · intro s0_5 I_6 L_7
    refine w_callV_Wz (q := 33) (st := []) (args := [.int (b2i s0_5)]) (p := 43) hc (m_X8_is hK hR) dX8_product_30 ml_X8_194 cf_X8_is iv_X8_is (k_43 hK) (C := RX8) (T := TX8) (N := 45) rfl rfl (Nat.lt_of_succ_le (Nat.le_of_ble_eq_true rfl)) rfl rfl (Nat.le_of_ble_eq_true rfl) ⟨Nat.le_of_ble_eq_true rfl, Nat.le_of_ble_eq_true rfl⟩ rfl (fun q_8 => ?_)
    refine w_ifne (q := 36) (tgt := 40) hc dX8_product_33 rfl rfl ?_ ?_
    · refine w_ldc2 (q := 39) hc dX8_product_36 kl_X8_208 rfl ?_
      exact w_lreturn hc hq dX8_product_39 rfl rfl
    · refine w_aload_n (q := 41) (i := 0) (j := 0) hc dX8_product_40 rfl rfl rfl ?_
      refine gf_X8_16 (q := 44) hc dX8_product_41 (k_43 hK) (r_43_6 hR) rfl ?_
      refine w_aload_n (q := 45) (i := 0) (j := 0) hc dX8_product_44 rfl rfl rfl ?_
      refine gf_X8_19 (q := 48) hc dX8_product_45 (k_43 hK) (r_43_7 hR) rfl ?_
      refine w_aload_n (q := 49) (i := 0) (j := 0) hc dX8_product_48 rfl rfl rfl ?_
      refine gf_X8_22 (q := 52) hc dX8_product_49 (k_43 hK) (r_43_8 hR) rfl ?_
      refine w_callS_Wv (q := 55) (st := []) (args := [.ref 46, .ref 47, .ref 48]) hc (m_X8_makes hK hR (kB hK (k_46 hK)) (kB hK (k_47 hK)) (kB hK (k_48 hK))) dX8_product_52 ml_X8_138 cf_X8_makes st_X8_makes rfl rfl (Nat.le_of_ble_eq_true rfl) ⟨Nat.le_of_ble_eq_true rfl, Nat.le_of_ble_eq_true rfl⟩ rfl (fun q_9 => ?_)
      refine w_aload_n (q := 56) (i := 0) (j := 0) hc dX8_product_55 rfl rfl rfl ?_
      refine w_aload_n (q := 57) (i := 0) (j := 0) hc dX8_product_56 rfl rfl rfl ?_
      refine gf_X8_22 (q := 60) hc dX8_product_57 (k_43 hK) (r_43_8 hR) rfl ?_
      refine w_callV_Rl (q := 63) (st := []) (args := [.ref 48]) (p := 43) hc (m_X8_told hK hR (kB hK (k_48 hK))) dX8_product_60 ml_X8_213 cf_X8_told iv_X8_told (k_43 hK) (C := RX8) (T := TX8) (N := 45) rfl rfl (Nat.lt_of_succ_le (Nat.le_of_ble_eq_true rfl)) rfl rfl (Nat.le_of_ble_eq_true rfl) ⟨Nat.le_of_ble_eq_true rfl, Nat.le_of_ble_eq_true rfl⟩ rfl (fun q_10 => ?_)
      exact w_lreturn hc hq dX8_product_63 rfl rfl
  · intro j30_212 hj30_212
    refine w_join (fun j29_213 : MI → ML → Option (Int64 × Mm) => ∀ (I_3 : MI) (L_4 : ML), WW G 29 [(0, .ref 43)] [.ref 43] I_3 L_4 (j29_213 I_3 L_4)) ?_ ?_
    · intro I_3 L_4
      refine w_iconst (q := 30) hc dX8_product_29 ci_1 rfl ?_
      exact hj30_212 true I_3 L_4
    · intro j29_213 hj29_213
      refine w_ifeq (q := 13) (tgt := 29) hc dX8_product_10 rfl rfl ?_ ?_
      · refine w_sub [0] rfl ?_
        exact hj29_213 q_1.2.1 q_1.2.2
      · refine w_aload_n (q := 14) (i := 0) (j := 0) hc dX8_product_13 rfl rfl rfl ?_
        refine w_lload_n (q := 15) (i := 3) (j := 2) hc dX8_product_14 rfl rfl rfl ?_
        refine w_aload_n (q := 16) (i := 0) (j := 0) hc dX8_product_15 rfl rfl rfl ?_
        refine gf_X8_19 (q := 19) hc dX8_product_16 (k_43 hK) (r_43_7 hR) rfl ?_
        refine w_callV_Wz (q := 22) (st := [.ref 43]) (args := [.long a3, .ref 47]) (p := 43) hc (m_X8_lies hK hR (kB hK (k_47 hK))) dX8_product_19 ml_X8_217 cf_X8_lies iv_X8_lies (k_43 hK) (C := RX8) (T := TX8) (N := 45) rfl rfl (Nat.lt_of_succ_le (Nat.le_of_ble_eq_true rfl)) rfl rfl (Nat.le_of_ble_eq_true rfl) ⟨Nat.le_of_ble_eq_true rfl, Nat.le_of_ble_eq_true rfl⟩ rfl (fun q_2 => ?_)
        refine w_ifeq (q := 25) (tgt := 29) hc dX8_product_22 rfl rfl ?_ ?_
        · refine w_sub [0] rfl ?_
          exact hj29_213 q_2.2.1 q_2.2.2
        · refine w_iconst (q := 26) hc dX8_product_25 ci_0 rfl ?_
          refine w_goto (tgt := 30) hc dX8_product_26 rfl ?_
          refine w_sub [0] rfl ?_
          exact hj30_212 false q_2.2.1 q_2.2.2
set_option maxRecDepth 100000 in
set_option maxHeartbeats 4000000 in
theorem m_X8_inverse {l : Launch} {K : KT} {R : MR} {rm : Nat} {a1 : Int64} {I : MI} {L : ML} (hK0 : K = lK rm) (hR0 : R = lR rm) : MFg l yX8_inverse cX8_inverse 3 (some .long) 2 48 [.ref 43, .long a1] K R I L anLW meW (f_X8_inverse a1 I L) := by
  refine mf_of (plainFor_of_name (by decide)) (Nat.le_of_ble_eq_true rfl) ?_
  intro G hc _ hK1 hR1 hn hq
  have hK := hK1.trans hK0
  have hR := hR1.trans hR0
  have hN : ∀ i, Nat.blt i 3 = true → i < gnL G := fun i h => hn ▸ Nat.blt_eq.mp h
  unfold f_X8_inverse
  show WW G 0 [(0, .ref 43), (1, .long a1)] [] I L _
  refine w_aload_n (q := 1) (i := 0) (j := 0) hc dX8_inverse_0 rfl rfl rfl ?_
  refine w_aload_n (q := 2) (i := 0) (j := 0) hc dX8_inverse_1 rfl rfl rfl ?_
  refine w_lload_n (q := 3) (i := 1) (j := 1) hc dX8_inverse_2 rfl rfl rfl ?_
  refine w_aload_n (q := 4) (i := 0) (j := 0) hc dX8_inverse_3 rfl rfl rfl ?_
  refine gf_X8_16 (q := 7) hc dX8_inverse_4 (k_43 hK) (r_43_6 hR) rfl ?_
  refine w_callV_Wz (q := 10) (st := [.ref 43]) (args := [.long a1, .ref 46]) (p := 43) hc (m_X8_lies hK hR (kB hK (k_46 hK))) dX8_inverse_7 ml_X8_217 cf_X8_lies iv_X8_lies (k_43 hK) (C := RX8) (T := TX8) (N := 45) rfl rfl (Nat.lt_of_succ_le (Nat.le_of_ble_eq_true rfl)) rfl rfl (Nat.le_of_ble_eq_true rfl) ⟨Nat.le_of_ble_eq_true rfl, Nat.le_of_ble_eq_true rfl⟩ rfl (fun q_1 => ?_)
  refine w_join (fun j18_214 : Bool → Option (Int64 × Mm) => ∀ (s0_2 : Bool), WW G 18 [(0, .ref 43)] [.int (b2i s0_2), .ref 43] q_1.2.1 q_1.2.2 (j18_214 s0_2)) ?_ ?_
  · intro s0_2
    refine w_callV_Wz (q := 21) (st := []) (args := [.int (b2i s0_2)]) (p := 43) hc (m_X8_is hK hR) dX8_inverse_18 ml_X8_194 cf_X8_is iv_X8_is (k_43 hK) (C := RX8) (T := TX8) (N := 45) rfl rfl (Nat.lt_of_succ_le (Nat.le_of_ble_eq_true rfl)) rfl rfl (Nat.le_of_ble_eq_true rfl) ⟨Nat.le_of_ble_eq_true rfl, Nat.le_of_ble_eq_true rfl⟩ rfl (fun q_3 => ?_)
    refine w_ifne (q := 24) (tgt := 28) hc dX8_inverse_21 rfl rfl ?_ ?_
    · refine w_ldc2 (q := 27) hc dX8_inverse_24 kl_X8_208 rfl ?_
      exact w_lreturn hc hq dX8_inverse_27 rfl rfl
    · refine w_aload_n (q := 29) (i := 0) (j := 0) hc dX8_inverse_28 rfl rfl rfl ?_
      refine gf_X8_16 (q := 32) hc dX8_inverse_29 (k_43 hK) (r_43_6 hR) rfl ?_
      refine w_aload_n (q := 33) (i := 0) (j := 0) hc dX8_inverse_32 rfl rfl rfl ?_
      refine gf_X8_22 (q := 36) hc dX8_inverse_33 (k_43 hK) (r_43_8 hR) rfl ?_
      refine w_callS_Wv (q := 39) (st := []) (args := [.ref 46, .ref 48]) hc (m_X8_inverts hK hR (kB hK (k_46 hK)) (kB hK (k_48 hK))) dX8_inverse_36 ml_X8_130 cf_X8_inverts st_X8_inverts rfl rfl (Nat.le_of_ble_eq_true rfl) ⟨Nat.le_of_ble_eq_true rfl, Nat.le_of_ble_eq_true rfl⟩ rfl (fun q_4 => ?_)
      refine w_aload_n (q := 40) (i := 0) (j := 0) hc dX8_inverse_39 rfl rfl rfl ?_
      refine w_aload_n (q := 41) (i := 0) (j := 0) hc dX8_inverse_40 rfl rfl rfl ?_
      refine gf_X8_22 (q := 44) hc dX8_inverse_41 (k_43 hK) (r_43_8 hR) rfl ?_
      refine w_callV_Rl (q := 47) (st := []) (args := [.ref 48]) (p := 43) hc (m_X8_told hK hR (kB hK (k_48 hK))) dX8_inverse_44 ml_X8_213 cf_X8_told iv_X8_told (k_43 hK) (C := RX8) (T := TX8) (N := 45) rfl rfl (Nat.lt_of_succ_le (Nat.le_of_ble_eq_true rfl)) rfl rfl (Nat.le_of_ble_eq_true rfl) ⟨Nat.le_of_ble_eq_true rfl, Nat.le_of_ble_eq_true rfl⟩ rfl (fun q_5 => ?_)
      exact w_lreturn hc hq dX8_inverse_47 rfl rfl
  · intro j18_214 hj18_214
    refine w_ifeq (q := 13) (tgt := 17) hc dX8_inverse_10 rfl rfl ?_ ?_
    · refine w_iconst (q := 18) hc dX8_inverse_17 ci_1 rfl ?_
      refine w_sub [0] rfl ?_
      exact hj18_214 true
    · refine w_iconst (q := 14) hc dX8_inverse_13 ci_0 rfl ?_
      refine w_goto (tgt := 18) hc dX8_inverse_14 rfl ?_
      refine w_sub [0] rfl ?_
      exact hj18_214 false
set_option maxRecDepth 100000 in
set_option maxHeartbeats 4000000 in
theorem wl_X8_powers_16 {G : GT Mm} {rm : Nat} (a1 : Nat) (a3 : Nat) (v2_5 : Int32) (v4_6 : Int32) (L : ML) (hc : Cx G cX8_powers yX8_powers.cls none 1 21) (hq : RetQ G anV meV) (hK : gK G = lK rm) (hR : gR G = lR rm) (hn : gnL G = 6) (ha1 : (lK rm)[a1]? = some (10, 10)) (ha3 : (lK rm)[a3]? = some (10, 10)) (k0 : MI → Option Mm) (hk0 : ∀ (I_11 : MI), WW G 39 [(1, .ref a1), (2, .int v2_5), (3, .ref a3), (4, .int v4_6)] [] I_11 L (k0 I_11)) : ∀ (n : Nat) (v5_7 : Int32) (I_8 : MI), WW G 16 [(1, .ref a1), (2, .int v2_5), (3, .ref a3), (4, .int v4_6), (5, .int v5_7)] [] I_8 L (f_X8_powers_16 a1 a3 v2_5 v4_6 L k0 n v5_7 I_8) := by
  have hN : ∀ i, Nat.blt i 6 = true → i < gnL G := fun i h => hn ▸ Nat.blt_eq.mp h
  intro n
  induction n with
  | zero => intros; exact w_none _ _ _
  | succ n ih =>
    intros v5_7 I_8
    rw [f_X8_powers_16]
    refine w_iload (q := 18) (i := 5) (j := 4) hc dX8_powers_16 rfl rfl ?_
    refine w_bipush (q := 20) hc dX8_powers_18 cb_10 rfl ?_
    refine w_icmpge (q := 23) (tgt := 39) hc dX8_powers_20 rfl rfl ?_ ?_
    · refine w_sub [0, 1, 2, 3] rfl ?_
      exact hk0 I_8
    · refine w_aload_n (q := 24) (i := 3) (j := 2) hc dX8_powers_23 rfl rfl rfl ?_
      refine w_iload (q := 26) (i := 5) (j := 4) hc dX8_powers_24 rfl rfl ?_
      refine w_aload_n (q := 27) (i := 1) (j := 0) hc dX8_powers_26 rfl rfl rfl ?_
      refine w_aload_n (q := 28) (i := 3) (j := 2) hc dX8_powers_27 rfl rfl rfl ?_
      refine w_iload (q := 30) (i := 5) (j := 4) hc dX8_powers_28 rfl rfl ?_
      refine w_iald (q := 31) hc dX8_powers_30 (kA hK ha3) rfl ?_
      refine w_iald (q := 32) hc dX8_powers_31 (kA hK ha1) rfl ?_
      refine w_iast (q := 33) hc dX8_powers_32 (kA hK ha3) rfl (fun I_9 => ?_)
      refine w_iincB (q := 36) (i := 5) (j := 4) (lv' := fun v5_10 => [(5, .int v5_10), (1, .ref a1), (2, .int v2_5), (3, .ref a3), (4, .int v4_6)]) hc dX8_powers_33 rfl ci_1 (hN 5 rfl) (fun _ => rfl) rfl (fun v5_10 => ?_)
      refine w_goto (tgt := 16) hc dX8_powers_36 rfl ?_
      refine w_sub [1, 2, 3, 4, 0] rfl ?_
      exact ih v5_10 I_9
set_option maxRecDepth 100000 in
set_option maxHeartbeats 4000000 in
theorem wl_X8_powers_7 {G : GT Mm} {rm : Nat} (a1 : Nat) (a3 : Nat) (v2_2 : Int32) (L : ML) (hc : Cx G cX8_powers yX8_powers.cls none 1 21) (hq : RetQ G anV meV) (hK : gK G = lK rm) (hR : gR G = lR rm) (hn : gnL G = 6) (ha1 : (lK rm)[a1]? = some (10, 10)) (ha3 : (lK rm)[a3]? = some (10, 10)) : ∀ (n : Nat) (v4_3 : Int32) (I_4 : MI), WW G 7 [(1, .ref a1), (2, .int v2_2), (3, .ref a3), (4, .int v4_3)] [] I_4 L (f_X8_powers_7 a1 a3 v2_2 L n v4_3 I_4) := by
  have hN : ∀ i, Nat.blt i 6 = true → i < gnL G := fun i h => hn ▸ Nat.blt_eq.mp h
  intro n
  induction n with
  | zero => intros; exact w_none _ _ _
  | succ n ih =>
    intros v4_3 I_4
    rw [f_X8_powers_7]
    refine w_iload (q := 9) (i := 4) (j := 3) hc dX8_powers_7 rfl rfl ?_
    refine w_iload_n (q := 10) (i := 2) (j := 1) hc dX8_powers_9 rfl rfl rfl ?_
    refine w_icmpge (q := 13) (tgt := 45) hc dX8_powers_10 rfl rfl ?_ ?_
    · exact w_return hc hq dX8_powers_45 rfl rfl
    · refine w_iconst (q := 14) hc dX8_powers_13 ci_0 rfl ?_
      refine w_istore (q := 16) (i := 5) (lv' := [(5, .int 0), (1, .ref a1), (2, .int v2_2), (3, .ref a3), (4, .int v4_3)]) hc dX8_powers_14 (hN 5 rfl) rfl rfl ?_
      refine w_sub [1, 2, 3, 4, 0] rfl ?_
      refine wl_X8_powers_16 a1 a3 v2_2 v4_3 L hc hq hK hR hn ha1 ha3 _ ?_ FU 0 I_4
      intro I_11
      refine w_iincB (q := 42) (i := 4) (j := 3) (lv' := fun v4_12 => [(4, .int v4_12), (1, .ref a1), (2, .int v2_2), (3, .ref a3)]) hc dX8_powers_39 rfl ci_1 (hN 4 rfl) (fun _ => rfl) rfl (fun v4_12 => ?_)
      refine w_goto (tgt := 7) hc dX8_powers_42 rfl ?_
      refine w_sub [1, 2, 3, 0] rfl ?_
      exact ih v4_12 I_11
set_option maxRecDepth 100000 in
set_option maxHeartbeats 4000000 in
theorem m_X8_powers {l : Launch} {K : KT} {R : MR} {rm : Nat} {a1 : Nat} {a2 : Int32} {a3 : Nat} {I : MI} {L : ML} (hK0 : K = lK rm) (hR0 : R = lR rm) (ha1 : (lK rm)[a1]? = some (10, 10)) (ha3 : (lK rm)[a3]? = some (10, 10)) : MFg l yX8_powers cX8_powers 6 none 1 21 [.ref 43, .ref a1, .int a2, .ref a3] K R I L anV meV (f_X8_powers a1 a2 a3 I L) := by
  refine mf_of (plainFor_of_name (by decide)) (Nat.le_of_ble_eq_true rfl) ?_
  intro G hc _ hK1 hR1 hn hq
  have hK := hK1.trans hK0
  have hR := hR1.trans hR0
  have hN : ∀ i, Nat.blt i 6 = true → i < gnL G := fun i h => hn ▸ Nat.blt_eq.mp h
  unfold f_X8_powers
  show WW G 0 [(0, .ref 43), (1, .ref a1), (2, .int a2), (3, .ref a3)] [] I L _
  refine w_aload_n (q := 1) (i := 3) (j := 3) hc dX8_powers_0 rfl rfl rfl ?_
  refine w_callS_Wv (q := 4) (st := []) (args := [.ref a3]) hc (m_X8_isHome hK hR (kB hK (kA hK ha3))) dX8_powers_1 ml_X8_96 cf_X8_isHome st_X8_isHome rfl rfl (Nat.le_of_ble_eq_true rfl) ⟨Nat.le_of_ble_eq_true rfl, Nat.le_of_ble_eq_true rfl⟩ rfl (fun q_1 => ?_)
  refine w_iconst (q := 5) hc dX8_powers_4 ci_0 rfl ?_
  refine w_istore (q := 7) (i := 4) (lv' := [(4, .int 0), (0, .ref 43), (1, .ref a1), (2, .int a2), (3, .ref a3)]) hc dX8_powers_5 (hN 4 rfl) rfl rfl ?_
  refine w_sub [2, 3, 4, 0] rfl ?_
  exact wl_X8_powers_7 a1 a3 a2 q_1.2 hc hq hK hR hn ha1 ha3 FU 0 q_1.1
set_option maxRecDepth 100000 in
set_option maxHeartbeats 4000000 in
theorem m_X8_power {l : Launch} {K : KT} {R : MR} {rm : Nat} {a1 : Int64} {a3 : Int32} {I : MI} {L : ML} (hK0 : K = lK rm) (hR0 : R = lR rm) : MFg l yX8_power cX8_power 4 (some .long) 2 48 [.ref 43, .long a1, .int a3] K R I L anLW meW (f_X8_power a1 a3 I L) := by
  refine mf_of (plainFor_of_name (by decide)) (Nat.le_of_ble_eq_true rfl) ?_
  intro G hc _ hK1 hR1 hn hq
  have hK := hK1.trans hK0
  have hR := hR1.trans hR0
  have hN : ∀ i, Nat.blt i 4 = true → i < gnL G := fun i h => hn ▸ Nat.blt_eq.mp h
  unfold f_X8_power
  show WW G 0 [(0, .ref 43), (1, .long a1), (3, .int a3)] [] I L _
  refine w_aload_n (q := 1) (i := 0) (j := 0) hc dX8_power_0 rfl rfl rfl ?_
  refine w_aload_n (q := 2) (i := 0) (j := 0) hc dX8_power_1 rfl rfl rfl ?_
  refine w_lload_n (q := 3) (i := 1) (j := 1) hc dX8_power_2 rfl rfl rfl ?_
  refine w_aload_n (q := 4) (i := 0) (j := 0) hc dX8_power_3 rfl rfl rfl ?_
  refine gf_X8_16 (q := 7) hc dX8_power_4 (k_43 hK) (r_43_6 hR) rfl ?_
  refine w_callV_Wz (q := 10) (st := [.ref 43]) (args := [.long a1, .ref 46]) (p := 43) hc (m_X8_lies hK hR (kB hK (k_46 hK))) dX8_power_7 ml_X8_217 cf_X8_lies iv_X8_lies (k_43 hK) (C := RX8) (T := TX8) (N := 45) rfl rfl (Nat.lt_of_succ_le (Nat.le_of_ble_eq_true rfl)) rfl rfl (Nat.le_of_ble_eq_true rfl) ⟨Nat.le_of_ble_eq_true rfl, Nat.le_of_ble_eq_true rfl⟩ rfl (fun q_1 => ?_)
  refine w_join (fun j32_218 : Bool → Option (Int64 × Mm) => ∀ (s0_3 : Bool), WW G 32 [(0, .ref 43), (3, .int a3)] [.int (b2i s0_3), .ref 43] q_1.2.1 q_1.2.2 (j32_218 s0_3)) ?_ ?_
  · intro s0_3
    refine w_callV_Wz (q := 35) (st := []) (args := [.int (b2i s0_3)]) (p := 43) hc (m_X8_is hK hR) dX8_power_32 ml_X8_194 cf_X8_is iv_X8_is (k_43 hK) (C := RX8) (T := TX8) (N := 45) rfl rfl (Nat.lt_of_succ_le (Nat.le_of_ble_eq_true rfl)) rfl rfl (Nat.le_of_ble_eq_true rfl) ⟨Nat.le_of_ble_eq_true rfl, Nat.le_of_ble_eq_true rfl⟩ rfl (fun q_4 => ?_)
    refine w_ifne (q := 38) (tgt := 42) hc dX8_power_35 rfl rfl ?_ ?_
    · refine w_ldc2 (q := 41) hc dX8_power_38 kl_X8_208 rfl ?_
      exact w_lreturn hc hq dX8_power_41 rfl rfl
    · refine w_aload_n (q := 43) (i := 0) (j := 0) hc dX8_power_42 rfl rfl rfl ?_
      refine gf_X8_16 (q := 46) hc dX8_power_43 (k_43 hK) (r_43_6 hR) rfl ?_
      refine w_aload_n (q := 47) (i := 0) (j := 0) hc dX8_power_46 rfl rfl rfl ?_
      refine gf_X8_19 (q := 50) hc dX8_power_47 (k_43 hK) (r_43_7 hR) rfl ?_
      refine w_callS_Wv (q := 53) (st := []) (args := [.ref 46, .ref 47]) hc (m_X8_inverts hK hR (kB hK (k_46 hK)) (kB hK (k_47 hK))) dX8_power_50 ml_X8_130 cf_X8_inverts st_X8_inverts rfl rfl (Nat.le_of_ble_eq_true rfl) ⟨Nat.le_of_ble_eq_true rfl, Nat.le_of_ble_eq_true rfl⟩ rfl (fun q_5 => ?_)
      refine w_iload_n (q := 54) (i := 3) (j := 1) hc dX8_power_53 rfl rfl rfl ?_
      refine w_ifge (q := 57) (tgt := 74) hc dX8_power_54 rfl rfl ?_ ?_
      · refine w_aload_n (q := 75) (i := 0) (j := 0) hc dX8_power_74 rfl rfl rfl ?_
        refine w_aload_n (q := 76) (i := 0) (j := 0) hc dX8_power_75 rfl rfl rfl ?_
        refine gf_X8_16 (q := 79) hc dX8_power_76 (k_43 hK) (r_43_6 hR) rfl ?_
        refine w_iload_n (q := 80) (i := 3) (j := 1) hc dX8_power_79 rfl rfl rfl ?_
        refine w_aload_n (q := 81) (i := 0) (j := 0) hc dX8_power_80 rfl rfl rfl ?_
        refine gf_X8_22 (q := 84) hc dX8_power_81 (k_43 hK) (r_43_8 hR) rfl ?_
        refine w_callV_Wv (q := 87) (st := []) (args := [.ref 46, .int a3, .ref 48]) (p := 43) hc (m_X8_powers hK hR (kB hK (k_46 hK)) (kB hK (k_48 hK))) dX8_power_84 ml_X8_232 cf_X8_powers iv_X8_powers (k_43 hK) (C := RX8) (T := TX8) (N := 45) rfl rfl (Nat.lt_of_succ_le (Nat.le_of_ble_eq_true rfl)) rfl rfl (Nat.le_of_ble_eq_true rfl) ⟨Nat.le_of_ble_eq_true rfl, Nat.le_of_ble_eq_true rfl⟩ rfl (fun q_6 => ?_)
        refine w_aload_n (q := 88) (i := 0) (j := 0) hc dX8_power_87 rfl rfl rfl ?_
        refine w_aload_n (q := 89) (i := 0) (j := 0) hc dX8_power_88 rfl rfl rfl ?_
        refine gf_X8_22 (q := 92) hc dX8_power_89 (k_43 hK) (r_43_8 hR) rfl ?_
        refine w_callV_Rl (q := 95) (st := []) (args := [.ref 48]) (p := 43) hc (m_X8_told hK hR (kB hK (k_48 hK))) dX8_power_92 ml_X8_213 cf_X8_told iv_X8_told (k_43 hK) (C := RX8) (T := TX8) (N := 45) rfl rfl (Nat.lt_of_succ_le (Nat.le_of_ble_eq_true rfl)) rfl rfl (Nat.le_of_ble_eq_true rfl) ⟨Nat.le_of_ble_eq_true rfl, Nat.le_of_ble_eq_true rfl⟩ rfl (fun q_7 => ?_)
        exact w_lreturn hc hq dX8_power_95 rfl rfl
      · refine w_aload_n (q := 58) (i := 0) (j := 0) hc dX8_power_57 rfl rfl rfl ?_
        refine w_aload_n (q := 59) (i := 0) (j := 0) hc dX8_power_58 rfl rfl rfl ?_
        refine gf_X8_19 (q := 62) hc dX8_power_59 (k_43 hK) (r_43_7 hR) rfl ?_
        refine w_iload_n (q := 63) (i := 3) (j := 1) hc dX8_power_62 rfl rfl rfl ?_
        refine w_ineg (q := 64) hc dX8_power_63  rfl ?_
        refine w_aload_n (q := 65) (i := 0) (j := 0) hc dX8_power_64 rfl rfl rfl ?_
        refine gf_X8_22 (q := 68) hc dX8_power_65 (k_43 hK) (r_43_8 hR) rfl ?_
        refine w_callV_Wv (q := 71) (st := []) (args := [.ref 47, .int (-a3), .ref 48]) (p := 43) hc (m_X8_powers hK hR (kB hK (k_47 hK)) (kB hK (k_48 hK))) dX8_power_68 ml_X8_232 cf_X8_powers iv_X8_powers (k_43 hK) (C := RX8) (T := TX8) (N := 45) rfl rfl (Nat.lt_of_succ_le (Nat.le_of_ble_eq_true rfl)) rfl rfl (Nat.le_of_ble_eq_true rfl) ⟨Nat.le_of_ble_eq_true rfl, Nat.le_of_ble_eq_true rfl⟩ rfl (fun q_8 => ?_)
        refine w_goto (tgt := 87) hc dX8_power_71 rfl ?_
        refine w_aload_n (q := 88) (i := 0) (j := 0) hc dX8_power_87 rfl rfl rfl ?_
        refine w_aload_n (q := 89) (i := 0) (j := 0) hc dX8_power_88 rfl rfl rfl ?_
        refine gf_X8_22 (q := 92) hc dX8_power_89 (k_43 hK) (r_43_8 hR) rfl ?_
        refine w_callV_Rl (q := 95) (st := []) (args := [.ref 48]) (p := 43) hc (m_X8_told hK hR (kB hK (k_48 hK))) dX8_power_92 ml_X8_213 cf_X8_told iv_X8_told (k_43 hK) (C := RX8) (T := TX8) (N := 45) rfl rfl (Nat.lt_of_succ_le (Nat.le_of_ble_eq_true rfl)) rfl rfl (Nat.le_of_ble_eq_true rfl) ⟨Nat.le_of_ble_eq_true rfl, Nat.le_of_ble_eq_true rfl⟩ rfl (fun q_9 => ?_)
        exact w_lreturn hc hq dX8_power_95 rfl rfl
  · intro j32_218 hj32_218
    refine w_join (fun j31_219 : Option (Int64 × Mm) => WW G 31 [(0, .ref 43), (3, .int a3)] [.ref 43] q_1.2.1 q_1.2.2 (j31_219)) ?_ ?_
    · refine w_iconst (q := 32) hc dX8_power_31 ci_1 rfl ?_
      exact hj32_218 true
    · intro j31_219 hj31_219
      refine w_ifeq (q := 13) (tgt := 31) hc dX8_power_10 rfl rfl ?_ ?_
      · refine w_sub [0, 2] rfl ?_
        exact hj31_219
      · refine w_iload_n (q := 14) (i := 3) (j := 2) hc dX8_power_13 rfl rfl rfl ?_
        refine w_i2l (q := 15) hc dX8_power_14  rfl ?_
        refine w_ldc2 (q := 18) hc dX8_power_15 kl_X8_228 rfl ?_
        refine w_ldc2 (q := 21) hc dX8_power_18 kl_X8_230 rfl ?_
        refine w_callS_Rz (q := 24) (st := [.ref 43]) (args := [.long (Int32.toInt64 a3), .long (-1000), .long 1000]) hc (m_X8_isIn hK hR) dX8_power_21 ml_X8_114 cf_X8_isIn st_X8_isIn rfl rfl (Nat.le_of_ble_eq_true rfl) ⟨Nat.le_of_ble_eq_true rfl, Nat.le_of_ble_eq_true rfl⟩ rfl (fun q_2 => ?_)
        refine w_ifeq (q := 27) (tgt := 31) hc dX8_power_24 rfl rfl ?_ ?_
        · refine w_sub [0, 2] rfl ?_
          exact hj31_219
        · refine w_iconst (q := 28) hc dX8_power_27 ci_0 rfl ?_
          refine w_goto (tgt := 32) hc dX8_power_28 rfl ?_
          refine w_sub [0, 2] rfl ?_
          exact hj32_218 false
set_option maxRecDepth 100000 in
set_option maxHeartbeats 4000000 in
theorem wl_X8_cycleFrom_6 {G : GT Int32} {rm : Nat} (a0 : Nat) (v1_2 : Int32) (I : MI) (L : ML) (hc : Cx G cX8_cycleFrom yX8_cycleFrom.cls (some .int) 0 0) (hq : RetQ G anI (meR I L)) (hK : gK G = lK rm) (hR : gR G = lR rm) (hn : gnL G = 4) (ha0 : (lK rm)[a0]? = some (10, 10)) : ∀ (n : Nat) (v2_3 : Int32) (v3_4 : Int32), WW G 6 [(0, .ref a0), (1, .int v1_2), (2, .int v2_3), (3, .int v3_4)] [] I L (f_X8_cycleFrom_6 a0 v1_2 I L n v2_3 v3_4) := by
  have hN : ∀ i, Nat.blt i 4 = true → i < gnL G := fun i h => hn ▸ Nat.blt_eq.mp h
  intro n
  induction n with
  | zero => intros; exact w_none _ _ _
  | succ n ih =>
    intros v2_3 v3_4
    rw [f_X8_cycleFrom_6]
    refine w_iload_n (q := 7) (i := 3) (j := 3) hc dX8_cycleFrom_6 rfl rfl rfl ?_
    refine w_iload_n (q := 8) (i := 1) (j := 1) hc dX8_cycleFrom_7 rfl rfl rfl ?_
    refine w_icmpeq (q := 11) (tgt := 28) hc dX8_cycleFrom_8 rfl rfl ?_ ?_
    · refine w_iload_n (q := 29) (i := 2) (j := 2) hc dX8_cycleFrom_28 rfl rfl rfl ?_
      exact w_ireturn (v := v2_3) hc hq dX8_cycleFrom_29 rfl rfl rfl
    · refine w_iload_n (q := 12) (i := 3) (j := 3) hc dX8_cycleFrom_11 rfl rfl rfl ?_
      refine w_iload_n (q := 13) (i := 1) (j := 1) hc dX8_cycleFrom_12 rfl rfl rfl ?_
      refine w_icmpge (q := 16) (tgt := 18) hc dX8_cycleFrom_13 rfl rfl ?_ ?_
      · refine w_iincB (q := 21) (i := 2) (j := 2) (lv' := fun v2_5 => [(2, .int v2_5), (0, .ref a0), (1, .int v1_2), (3, .int v3_4)]) hc dX8_cycleFrom_18 rfl ci_1 (hN 2 rfl) (fun _ => rfl) rfl (fun v2_5 => ?_)
        refine w_aload_n (q := 22) (i := 0) (j := 1) hc dX8_cycleFrom_21 rfl rfl rfl ?_
        refine w_iload_n (q := 23) (i := 3) (j := 3) hc dX8_cycleFrom_22 rfl rfl rfl ?_
        refine w_iald (q := 24) hc dX8_cycleFrom_23 (kA hK ha0) rfl ?_
        refine w_istore_nB (q := 25) (i := 3) (lv' := fun v3_6 => [(3, .int v3_6), (2, .int v2_5), (0, .ref a0), (1, .int v1_2)]) hc dX8_cycleFrom_24 rfl (hN 3 rfl) (fun _ => rfl) rfl (fun v3_6 => ?_)
        refine w_goto (tgt := 6) hc dX8_cycleFrom_25 rfl ?_
        refine w_sub [2, 3, 1, 0] rfl ?_
        exact ih v2_5 v3_6
      · refine w_iconst (q := 17) hc dX8_cycleFrom_16 ci_0 rfl ?_
        exact w_ireturn (v := 0) hc hq dX8_cycleFrom_17 rfl rfl rfl
set_option maxRecDepth 100000 in
set_option maxHeartbeats 4000000 in
theorem m_X8_cycleFrom {l : Launch} {K : KT} {R : MR} {rm : Nat} {a0 : Nat} {a1 : Int32} {I : MI} {L : ML} (hK0 : K = lK rm) (hR0 : R = lR rm) (ha0 : (lK rm)[a0]? = some (10, 10)) : MFg l yX8_cycleFrom cX8_cycleFrom 4 (some .int) 0 0 [.ref a0, .int a1] K R I L anI (meR I L) (f_X8_cycleFrom a0 a1 I L) := by
  refine mf_of (plainFor_of_name (by decide)) (Nat.le_of_ble_eq_true rfl) ?_
  intro G hc _ hK1 hR1 hn hq
  have hK := hK1.trans hK0
  have hR := hR1.trans hR0
  have hN : ∀ i, Nat.blt i 4 = true → i < gnL G := fun i h => hn ▸ Nat.blt_eq.mp h
  unfold f_X8_cycleFrom
  show WW G 0 [(0, .ref a0), (1, .int a1)] [] I L _
  refine w_iconst (q := 1) hc dX8_cycleFrom_0 ci_1 rfl ?_
  refine w_istore_n (q := 2) (i := 2) (lv' := [(2, .int 1), (0, .ref a0), (1, .int a1)]) hc dX8_cycleFrom_1 rfl (hN 2 rfl) rfl rfl ?_
  refine w_aload_n (q := 3) (i := 0) (j := 1) hc dX8_cycleFrom_2 rfl rfl rfl ?_
  refine w_iload_n (q := 4) (i := 1) (j := 2) hc dX8_cycleFrom_3 rfl rfl rfl ?_
  refine w_iald (q := 5) hc dX8_cycleFrom_4 (kA hK ha0) rfl ?_
  refine w_istore_nB (q := 6) (i := 3) (lv' := fun v3_1 => [(3, .int v3_1), (2, .int 1), (0, .ref a0), (1, .int a1)]) hc dX8_cycleFrom_5 rfl (hN 3 rfl) (fun _ => rfl) rfl (fun v3_1 => ?_)
  refine w_sub [2, 3, 1, 0] rfl ?_
  exact wl_X8_cycleFrom_6 a0 a1 I L hc hq hK hR hn ha0 FU 1 v3_1
set_option maxRecDepth 100000 in
set_option maxHeartbeats 4000000 in
theorem wl_X8_cycles_4 {G : GT Int32} {rm : Nat} (a1 : Nat) (I : MI) (L : ML) (hc : Cx G cX8_cycles yX8_cycles.cls (some .int) 1 23) (hq : RetQ G anI (meR I L)) (hK : gK G = lK rm) (hR : gR G = lR rm) (hn : gnL G = 4) (ha1 : (lK rm)[a1]? = some (10, 10)) : ∀ (n : Nat) (v2_1 : Int32) (v3_2 : Int32), WW G 4 [(0, .ref 43), (1, .ref a1), (2, .int v2_1), (3, .int v3_2)] [] I L (f_X8_cycles_4 a1 I L n v2_1 v3_2) := by
  have hN : ∀ i, Nat.blt i 4 = true → i < gnL G := fun i h => hn ▸ Nat.blt_eq.mp h
  intro n
  induction n with
  | zero => intros; exact w_none _ _ _
  | succ n ih =>
    intros v2_1 v3_2
    rw [f_X8_cycles_4]
    refine w_iload_n (q := 5) (i := 3) (j := 3) hc dX8_cycles_4 rfl rfl rfl ?_
    refine w_aload_n (q := 6) (i := 0) (j := 0) hc dX8_cycles_5 rfl rfl rfl ?_
    refine gf_X8_118 (q := 9) hc dX8_cycles_6 (k_43 hK) rfl ?_
    refine w_icmpge (q := 12) (tgt := 34) hc dX8_cycles_9 rfl rfl ?_ ?_
    · refine w_iload_n (q := 35) (i := 2) (j := 2) hc dX8_cycles_34 rfl rfl rfl ?_
      exact w_ireturn (v := v2_1) hc hq dX8_cycles_35 rfl rfl rfl
    · refine w_iload_n (q := 13) (i := 2) (j := 2) hc dX8_cycles_12 rfl rfl rfl ?_
      refine w_aload_n (q := 14) (i := 1) (j := 1) hc dX8_cycles_13 rfl rfl rfl ?_
      refine w_iload_n (q := 15) (i := 3) (j := 3) hc dX8_cycles_14 rfl rfl rfl ?_
      refine w_callS_Ri (q := 18) (st := [.int v2_1]) (args := [.ref a1, .int v3_2]) hc (m_X8_cycleFrom hK hR (kB hK (kA hK ha1))) dX8_cycles_15 ml_X8_236 cf_X8_cycleFrom st_X8_cycleFrom rfl rfl (Nat.le_of_ble_eq_true rfl) ⟨Nat.le_of_ble_eq_true rfl, Nat.le_of_ble_eq_true rfl⟩ rfl (fun q_3 => ?_)
      refine w_ifle (q := 21) (tgt := 25) hc dX8_cycles_18 rfl rfl ?_ ?_
      · refine w_iconst (q := 26) hc dX8_cycles_25 ci_0 rfl ?_
        refine w_iadd (q := 27) hc dX8_cycles_26  rfl ?_
        refine w_istore_nB (q := 28) (i := 2) (lv' := fun v2_4 => [(2, .int v2_4), (0, .ref 43), (1, .ref a1), (3, .int v3_2)]) hc dX8_cycles_27 rfl (hN 2 rfl) (fun _ => rfl) rfl (fun v2_4 => ?_)
        refine w_iincB (q := 31) (i := 3) (j := 3) (lv' := fun v3_5 => [(3, .int v3_5), (2, .int v2_4), (0, .ref 43), (1, .ref a1)]) hc dX8_cycles_28 rfl ci_1 (hN 3 rfl) (fun _ => rfl) rfl (fun v3_5 => ?_)
        refine w_goto (tgt := 4) hc dX8_cycles_31 rfl ?_
        refine w_sub [2, 3, 1, 0] rfl ?_
        exact ih v2_4 v3_5
      · refine w_iconst (q := 22) hc dX8_cycles_21 ci_1 rfl ?_
        refine w_goto (tgt := 26) hc dX8_cycles_22 rfl ?_
        refine w_iadd (q := 27) hc dX8_cycles_26  rfl ?_
        refine w_istore_nB (q := 28) (i := 2) (lv' := fun v2_6 => [(2, .int v2_6), (0, .ref 43), (1, .ref a1), (3, .int v3_2)]) hc dX8_cycles_27 rfl (hN 2 rfl) (fun _ => rfl) rfl (fun v2_6 => ?_)
        refine w_iincB (q := 31) (i := 3) (j := 3) (lv' := fun v3_7 => [(3, .int v3_7), (2, .int v2_6), (0, .ref 43), (1, .ref a1)]) hc dX8_cycles_28 rfl ci_1 (hN 3 rfl) (fun _ => rfl) rfl (fun v3_7 => ?_)
        refine w_goto (tgt := 4) hc dX8_cycles_31 rfl ?_
        refine w_sub [2, 3, 1, 0] rfl ?_
        exact ih v2_6 v3_7
set_option maxRecDepth 100000 in
set_option maxHeartbeats 4000000 in
theorem m_X8_cycles {l : Launch} {K : KT} {R : MR} {rm : Nat} {a1 : Nat} {I : MI} {L : ML} (hK0 : K = lK rm) (hR0 : R = lR rm) (ha1 : (lK rm)[a1]? = some (10, 10)) : MFg l yX8_cycles cX8_cycles 4 (some .int) 1 23 [.ref 43, .ref a1] K R I L anI (meR I L) (f_X8_cycles a1 I L) := by
  refine mf_of (plainFor_of_name (by decide)) (Nat.le_of_ble_eq_true rfl) ?_
  intro G hc _ hK1 hR1 hn hq
  have hK := hK1.trans hK0
  have hR := hR1.trans hR0
  have hN : ∀ i, Nat.blt i 4 = true → i < gnL G := fun i h => hn ▸ Nat.blt_eq.mp h
  unfold f_X8_cycles
  show WW G 0 [(0, .ref 43), (1, .ref a1)] [] I L _
  refine w_iconst (q := 1) hc dX8_cycles_0 ci_0 rfl ?_
  refine w_istore_n (q := 2) (i := 2) (lv' := [(2, .int 0), (0, .ref 43), (1, .ref a1)]) hc dX8_cycles_1 rfl (hN 2 rfl) rfl rfl ?_
  refine w_iconst (q := 3) hc dX8_cycles_2 ci_0 rfl ?_
  refine w_istore_n (q := 4) (i := 3) (lv' := [(3, .int 0), (2, .int 0), (0, .ref 43), (1, .ref a1)]) hc dX8_cycles_3 rfl (hN 3 rfl) rfl rfl ?_
  refine w_sub [2, 3, 1, 0] rfl ?_
  exact wl_X8_cycles_4 a1 I L hc hq hK hR hn ha1 FU 0 0
set_option maxRecDepth 100000 in
set_option maxHeartbeats 4000000 in
theorem wl_X8_staying_4 {G : GT Int32} {rm : Nat} (a1 : Nat) (I : MI) (L : ML) (hc : Cx G cX8_staying yX8_staying.cls (some .int) 0 0) (hq : RetQ G anI (meR I L)) (hK : gK G = lK rm) (hR : gR G = lR rm) (hn : gnL G = 4) (ha1 : (lK rm)[a1]? = some (10, 10)) : ∀ (n : Nat) (v2_1 : Int32) (v3_2 : Int32), WW G 4 [(0, .ref 43), (1, .ref a1), (2, .int v2_1), (3, .int v3_2)] [] I L (f_X8_staying_4 a1 I L n v2_1 v3_2) := by
  have hN : ∀ i, Nat.blt i 4 = true → i < gnL G := fun i h => hn ▸ Nat.blt_eq.mp h
  intro n
  induction n with
  | zero => intros; exact w_none _ _ _
  | succ n ih =>
    intros v2_1 v3_2
    rw [f_X8_staying_4]
    refine w_iload_n (q := 5) (i := 3) (j := 3) hc dX8_staying_4 rfl rfl rfl ?_
    refine w_aload_n (q := 6) (i := 0) (j := 0) hc dX8_staying_5 rfl rfl rfl ?_
    refine gf_X8_118 (q := 9) hc dX8_staying_6 (k_43 hK) rfl ?_
    refine w_icmpge (q := 12) (tgt := 33) hc dX8_staying_9 rfl rfl ?_ ?_
    · refine w_iload_n (q := 34) (i := 2) (j := 2) hc dX8_staying_33 rfl rfl rfl ?_
      exact w_ireturn (v := v2_1) hc hq dX8_staying_34 rfl rfl rfl
    · refine w_iload_n (q := 13) (i := 2) (j := 2) hc dX8_staying_12 rfl rfl rfl ?_
      refine w_aload_n (q := 14) (i := 1) (j := 1) hc dX8_staying_13 rfl rfl rfl ?_
      refine w_iload_n (q := 15) (i := 3) (j := 3) hc dX8_staying_14 rfl rfl rfl ?_
      refine w_iald (q := 16) hc dX8_staying_15 (kA hK ha1) rfl ?_
      refine w_iload_n (q := 17) (i := 3) (j := 3) hc dX8_staying_16 rfl rfl rfl ?_
      refine w_icmpne (q := 20) (tgt := 24) hc dX8_staying_17 rfl rfl ?_ ?_
      · refine w_iconst (q := 21) hc dX8_staying_20 ci_1 rfl ?_
        refine w_goto (tgt := 25) hc dX8_staying_21 rfl ?_
        refine w_iadd (q := 26) hc dX8_staying_25  rfl ?_
        refine w_istore_nB (q := 27) (i := 2) (lv' := fun v2_5 => [(2, .int v2_5), (0, .ref 43), (1, .ref a1), (3, .int v3_2)]) hc dX8_staying_26 rfl (hN 2 rfl) (fun _ => rfl) rfl (fun v2_5 => ?_)
        refine w_iincB (q := 30) (i := 3) (j := 3) (lv' := fun v3_6 => [(3, .int v3_6), (2, .int v2_5), (0, .ref 43), (1, .ref a1)]) hc dX8_staying_27 rfl ci_1 (hN 3 rfl) (fun _ => rfl) rfl (fun v3_6 => ?_)
        refine w_goto (tgt := 4) hc dX8_staying_30 rfl ?_
        refine w_sub [2, 3, 1, 0] rfl ?_
        exact ih v2_5 v3_6
      · refine w_iconst (q := 25) hc dX8_staying_24 ci_0 rfl ?_
        refine w_iadd (q := 26) hc dX8_staying_25  rfl ?_
        refine w_istore_nB (q := 27) (i := 2) (lv' := fun v2_3 => [(2, .int v2_3), (0, .ref 43), (1, .ref a1), (3, .int v3_2)]) hc dX8_staying_26 rfl (hN 2 rfl) (fun _ => rfl) rfl (fun v2_3 => ?_)
        refine w_iincB (q := 30) (i := 3) (j := 3) (lv' := fun v3_4 => [(3, .int v3_4), (2, .int v2_3), (0, .ref 43), (1, .ref a1)]) hc dX8_staying_27 rfl ci_1 (hN 3 rfl) (fun _ => rfl) rfl (fun v3_4 => ?_)
        refine w_goto (tgt := 4) hc dX8_staying_30 rfl ?_
        refine w_sub [2, 3, 1, 0] rfl ?_
        exact ih v2_3 v3_4
set_option maxRecDepth 100000 in
set_option maxHeartbeats 4000000 in
theorem m_X8_staying {l : Launch} {K : KT} {R : MR} {rm : Nat} {a1 : Nat} {I : MI} {L : ML} (hK0 : K = lK rm) (hR0 : R = lR rm) (ha1 : (lK rm)[a1]? = some (10, 10)) : MFg l yX8_staying cX8_staying 4 (some .int) 0 0 [.ref 43, .ref a1] K R I L anI (meR I L) (f_X8_staying a1 I L) := by
  refine mf_of (plainFor_of_name (by decide)) (Nat.le_of_ble_eq_true rfl) ?_
  intro G hc _ hK1 hR1 hn hq
  have hK := hK1.trans hK0
  have hR := hR1.trans hR0
  have hN : ∀ i, Nat.blt i 4 = true → i < gnL G := fun i h => hn ▸ Nat.blt_eq.mp h
  unfold f_X8_staying
  show WW G 0 [(0, .ref 43), (1, .ref a1)] [] I L _
  refine w_iconst (q := 1) hc dX8_staying_0 ci_0 rfl ?_
  refine w_istore_n (q := 2) (i := 2) (lv' := [(2, .int 0), (0, .ref 43), (1, .ref a1)]) hc dX8_staying_1 rfl (hN 2 rfl) rfl rfl ?_
  refine w_iconst (q := 3) hc dX8_staying_2 ci_0 rfl ?_
  refine w_istore_n (q := 4) (i := 3) (lv' := [(3, .int 0), (2, .int 0), (0, .ref 43), (1, .ref a1)]) hc dX8_staying_3 rfl (hN 3 rfl) rfl rfl ?_
  refine w_sub [2, 3, 1, 0] rfl ?_
  exact wl_X8_staying_4 a1 I L hc hq hK hR hn ha1 FU 0 0
set_option maxRecDepth 100000 in
set_option maxHeartbeats 4000000 in
theorem wl_X8_orderOf__4 {G : GT Int32} {rm : Nat} (a1 : Nat) (I : MI) (L : ML) (hc : Cx G cX8_orderOf_ yX8_orderOf_.cls (some .int) 1 24) (hq : RetQ G anI (meR I L)) (hK : gK G = lK rm) (hR : gR G = lR rm) (hn : gnL G = 5) (ha1 : (lK rm)[a1]? = some (10, 10)) : ∀ (n : Nat) (v2_1 : Int32) (v3_2 : Int32), WW G 4 [(0, .ref 43), (1, .ref a1), (2, .int v2_1), (3, .int v3_2)] [] I L (f_X8_orderOf__4 a1 I L n v2_1 v3_2) := by
  have hN : ∀ i, Nat.blt i 5 = true → i < gnL G := fun i h => hn ▸ Nat.blt_eq.mp h
  intro n
  induction n with
  | zero => intros; exact w_none _ _ _
  | succ n ih =>
    intros v2_1 v3_2
    rw [f_X8_orderOf__4]
    refine w_iload_n (q := 5) (i := 3) (j := 3) hc dX8_orderOf__4 rfl rfl rfl ?_
    refine w_aload_n (q := 6) (i := 0) (j := 0) hc dX8_orderOf__5 rfl rfl rfl ?_
    refine gf_X8_118 (q := 9) hc dX8_orderOf__6 (k_43 hK) rfl ?_
    refine w_icmpge (q := 12) (tgt := 46) hc dX8_orderOf__9 rfl rfl ?_ ?_
    · refine w_iload_n (q := 47) (i := 2) (j := 2) hc dX8_orderOf__46 rfl rfl rfl ?_
      exact w_ireturn (v := v2_1) hc hq dX8_orderOf__47 rfl rfl rfl
    · refine w_aload_n (q := 13) (i := 1) (j := 1) hc dX8_orderOf__12 rfl rfl rfl ?_
      refine w_iload_n (q := 14) (i := 3) (j := 3) hc dX8_orderOf__13 rfl rfl rfl ?_
      refine w_callS_Ri (q := 17) (st := []) (args := [.ref a1, .int v3_2]) hc (m_X8_cycleFrom hK hR (kB hK (kA hK ha1))) dX8_orderOf__14 ml_X8_236 cf_X8_cycleFrom st_X8_cycleFrom rfl rfl (Nat.le_of_ble_eq_true rfl) ⟨Nat.le_of_ble_eq_true rfl, Nat.le_of_ble_eq_true rfl⟩ rfl (fun q_3 => ?_)
      refine w_istore (q := 19) (i := 4) (lv' := [(4, .int q_3), (0, .ref 43), (1, .ref a1), (2, .int v2_1), (3, .int v3_2)]) hc dX8_orderOf__17 (hN 4 rfl) rfl rfl ?_
      refine w_iload (q := 21) (i := 4) (j := 0) hc dX8_orderOf__19 rfl rfl ?_
      refine w_ifne (q := 24) (tgt := 28) hc dX8_orderOf__21 rfl rfl ?_ ?_
      · refine w_iload_n (q := 25) (i := 2) (j := 3) hc dX8_orderOf__24 rfl rfl rfl ?_
        refine w_goto (tgt := 39) hc dX8_orderOf__25 rfl ?_
        refine w_istore_n (q := 40) (i := 2) (lv' := [(2, .int v2_1), (4, .int q_3), (0, .ref 43), (1, .ref a1), (3, .int v3_2)]) hc dX8_orderOf__39 rfl (hN 2 rfl) rfl rfl ?_
        refine w_iincB (q := 43) (i := 3) (j := 4) (lv' := fun v3_7 => [(3, .int v3_7), (2, .int v2_1), (4, .int q_3), (0, .ref 43), (1, .ref a1)]) hc dX8_orderOf__40 rfl ci_1 (hN 3 rfl) (fun _ => rfl) rfl (fun v3_7 => ?_)
        refine w_goto (tgt := 4) hc dX8_orderOf__43 rfl ?_
        refine w_sub [3, 4, 1, 0] rfl ?_
        exact ih v2_1 v3_7
      · refine w_iload_n (q := 29) (i := 2) (j := 3) hc dX8_orderOf__28 rfl rfl rfl ?_
        refine w_iload_n (q := 30) (i := 2) (j := 3) hc dX8_orderOf__29 rfl rfl rfl ?_
        refine w_iload (q := 32) (i := 4) (j := 0) hc dX8_orderOf__30 rfl rfl ?_
        refine w_callS_Ri (q := 35) (st := [.int v2_1]) (args := [.int v2_1, .int q_3]) hc (m_X8_common hK hR) dX8_orderOf__32 ml_X8_240 cf_X8_common st_X8_common rfl rfl (Nat.le_of_ble_eq_true rfl) ⟨Nat.le_of_ble_eq_true rfl, Nat.le_of_ble_eq_true rfl⟩ rfl (fun q_4 => ?_)
        refine w_idiv (q := 36) hc dX8_orderOf__35  rfl ?_
        refine w_iload (q := 38) (i := 4) (j := 0) hc dX8_orderOf__36 rfl rfl ?_
        refine w_imul (q := 39) hc dX8_orderOf__38  rfl ?_
        refine w_istore_nB (q := 40) (i := 2) (lv' := fun v2_5 => [(2, .int v2_5), (4, .int q_3), (0, .ref 43), (1, .ref a1), (3, .int v3_2)]) hc dX8_orderOf__39 rfl (hN 2 rfl) (fun _ => rfl) rfl (fun v2_5 => ?_)
        refine w_iincB (q := 43) (i := 3) (j := 4) (lv' := fun v3_6 => [(3, .int v3_6), (2, .int v2_5), (4, .int q_3), (0, .ref 43), (1, .ref a1)]) hc dX8_orderOf__40 rfl ci_1 (hN 3 rfl) (fun _ => rfl) rfl (fun v3_6 => ?_)
        refine w_goto (tgt := 4) hc dX8_orderOf__43 rfl ?_
        refine w_sub [3, 4, 1, 0] rfl ?_
        exact ih v2_5 v3_6
set_option maxRecDepth 100000 in
set_option maxHeartbeats 4000000 in
theorem m_X8_orderOf_ {l : Launch} {K : KT} {R : MR} {rm : Nat} {a1 : Nat} {I : MI} {L : ML} (hK0 : K = lK rm) (hR0 : R = lR rm) (ha1 : (lK rm)[a1]? = some (10, 10)) : MFg l yX8_orderOf_ cX8_orderOf_ 5 (some .int) 1 24 [.ref 43, .ref a1] K R I L anI (meR I L) (f_X8_orderOf_ a1 I L) := by
  refine mf_of (plainFor_of_name (by decide)) (Nat.le_of_ble_eq_true rfl) ?_
  intro G hc _ hK1 hR1 hn hq
  have hK := hK1.trans hK0
  have hR := hR1.trans hR0
  have hN : ∀ i, Nat.blt i 5 = true → i < gnL G := fun i h => hn ▸ Nat.blt_eq.mp h
  unfold f_X8_orderOf_
  show WW G 0 [(0, .ref 43), (1, .ref a1)] [] I L _
  refine w_iconst (q := 1) hc dX8_orderOf__0 ci_1 rfl ?_
  refine w_istore_n (q := 2) (i := 2) (lv' := [(2, .int 1), (0, .ref 43), (1, .ref a1)]) hc dX8_orderOf__1 rfl (hN 2 rfl) rfl rfl ?_
  refine w_iconst (q := 3) hc dX8_orderOf__2 ci_0 rfl ?_
  refine w_istore_n (q := 4) (i := 3) (lv' := [(3, .int 0), (2, .int 1), (0, .ref 43), (1, .ref a1)]) hc dX8_orderOf__3 rfl (hN 3 rfl) rfl rfl ?_
  refine w_sub [2, 3, 1, 0] rfl ?_
  exact wl_X8_orderOf__4 a1 I L hc hq hK hR hn ha1 FU 1 0
set_option maxRecDepth 100000 in
set_option maxHeartbeats 4000000 in
theorem m_X8_isEven {l : Launch} {K : KT} {R : MR} {rm : Nat} {a1 : Nat} {I : MI} {L : ML} (hK0 : K = lK rm) (hR0 : R = lR rm) (ha1 : (lK rm)[a1]? = some (10, 10)) : MFg l yX8_isEven cX8_isEven 2 (some .boolean) 2 46 [.ref 43, .ref a1] K R I L anZ (meR I L) (f_X8_isEven a1 I L) := by
  refine mf_of (plainFor_of_name (by decide)) (Nat.le_of_ble_eq_true rfl) ?_
  intro G hc _ hK1 hR1 hn hq
  have hK := hK1.trans hK0
  have hR := hR1.trans hR0
  have hN : ∀ i, Nat.blt i 2 = true → i < gnL G := fun i h => hn ▸ Nat.blt_eq.mp h
  unfold f_X8_isEven
  show WW G 0 [(0, .ref 43), (1, .ref a1)] [] I L _
  refine w_aload_n (q := 1) (i := 0) (j := 0) hc dX8_isEven_0 rfl rfl rfl ?_
  refine gf_X8_118 (q := 4) hc dX8_isEven_1 (k_43 hK) rfl ?_
  refine w_aload_n (q := 5) (i := 0) (j := 0) hc dX8_isEven_4 rfl rfl rfl ?_
  refine w_aload_n (q := 6) (i := 1) (j := 1) hc dX8_isEven_5 rfl rfl rfl ?_
  refine w_callV_Ri (q := 9) (st := [.int (I 43 2)]) (args := [.ref a1]) (p := 43) hc (m_X8_cycles hK hR (kB hK (kA hK ha1))) dX8_isEven_6 ml_X8_243 cf_X8_cycles iv_X8_cycles (k_43 hK) (C := RX8) (T := TX8) (N := 45) rfl rfl (Nat.lt_of_succ_le (Nat.le_of_ble_eq_true rfl)) rfl rfl (Nat.le_of_ble_eq_true rfl) ⟨Nat.le_of_ble_eq_true rfl, Nat.le_of_ble_eq_true rfl⟩ rfl (fun q_1 => ?_)
  refine w_isub (q := 10) hc dX8_isEven_9  rfl ?_
  refine w_iconst (q := 11) hc dX8_isEven_10 ci_2 rfl ?_
  refine w_irem (q := 12) hc dX8_isEven_11  rfl ?_
  refine w_ifne (q := 15) (tgt := 19) hc dX8_isEven_12 rfl rfl ?_ ?_
  · refine w_iconst (q := 16) hc dX8_isEven_15 ci_1 rfl ?_
    refine w_goto (tgt := 20) hc dX8_isEven_16 rfl ?_
    exact w_ireturn (v := b2i true) hc hq dX8_isEven_20 (nar_b2i true) rfl rfl
  · refine w_iconst (q := 20) hc dX8_isEven_19 ci_0 rfl ?_
    exact w_ireturn (v := b2i false) hc hq dX8_isEven_20 (nar_b2i false) rfl rfl
set_option maxRecDepth 100000 in
set_option maxHeartbeats 4000000 in
theorem wl_X8_about_111 {G : GT (Int32 × Mm)} {rm : Nat} (I : MI) (L : ML) (hc : Cx G cX8_about yX8_about.cls (some .int) 3 67) (hq : RetQ G anIW meW) (hK : gK G = lK rm) (hR : gR G = lR rm) (hn : gnL G = 6) : ∀ (n : Nat) (v4_5 : Int32) (v5_6 : Int32), WW G 111 [(0, .ref 43), (4, .int v4_5), (5, .int v5_6)] [] I L (f_X8_about_111 I L n v4_5 v5_6) := by
  have hN : ∀ i, Nat.blt i 6 = true → i < gnL G := fun i h => hn ▸ Nat.blt_eq.mp h
  intro n
  induction n with
  | zero => intros; exact w_none _ _ _
  | succ n ih =>
    intros v4_5 v5_6
    rw [f_X8_about_111]
    refine w_iload (q := 113) (i := 5) (j := 2) hc dX8_about_111 rfl rfl ?_
    refine w_aload_n (q := 114) (i := 0) (j := 0) hc dX8_about_113 rfl rfl rfl ?_
    refine gf_X8_118 (q := 117) hc dX8_about_114 (k_43 hK) rfl ?_
    refine w_icmpge (q := 120) (tgt := 151) hc dX8_about_117 rfl rfl ?_ ?_
    · refine w_iload (q := 153) (i := 4) (j := 1) hc dX8_about_151 rfl rfl ?_
      exact w_ireturn (v := v4_5) hc hq dX8_about_153 rfl rfl rfl
    · refine w_iload (q := 122) (i := 4) (j := 1) hc dX8_about_120 rfl rfl ?_
      refine w_aload_n (q := 123) (i := 0) (j := 0) hc dX8_about_122 rfl rfl rfl ?_
      refine gf_X8_16 (q := 126) hc dX8_about_123 (k_43 hK) (r_43_6 hR) rfl ?_
      refine w_iload (q := 128) (i := 5) (j := 2) hc dX8_about_126 rfl rfl ?_
      refine w_iald (q := 129) hc dX8_about_128 (k_46 hK) rfl ?_
      refine w_iload (q := 131) (i := 5) (j := 2) hc dX8_about_129 rfl rfl ?_
      refine w_icmpne (q := 134) (tgt := 138) hc dX8_about_131 rfl rfl ?_ ?_
      · refine w_iconst (q := 135) hc dX8_about_134 ci_0 rfl ?_
        refine w_goto (tgt := 142) hc dX8_about_135 rfl ?_
        refine w_ior (q := 143) hc dX8_about_142  rfl ?_
        refine w_istoreB (q := 145) (i := 4) (lv' := fun v4_9 => [(4, .int v4_9), (0, .ref 43), (5, .int v5_6)]) hc dX8_about_143 (hN 4 rfl) (fun _ => rfl) rfl (fun v4_9 => ?_)
        refine w_iincB (q := 148) (i := 5) (j := 2) (lv' := fun v5_10 => [(5, .int v5_10), (4, .int v4_9), (0, .ref 43)]) hc dX8_about_145 rfl ci_1 (hN 5 rfl) (fun _ => rfl) rfl (fun v5_10 => ?_)
        refine w_goto (tgt := 111) hc dX8_about_148 rfl ?_
        refine w_sub [2, 1, 0] rfl ?_
        exact ih v4_9 v5_10
      · refine w_iconst (q := 139) hc dX8_about_138 ci_1 rfl ?_
        refine w_iload (q := 141) (i := 5) (j := 2) hc dX8_about_139 rfl rfl ?_
        refine w_ishl (q := 142) hc dX8_about_141  rfl ?_
        refine w_ior (q := 143) hc dX8_about_142  rfl ?_
        refine w_istoreB (q := 145) (i := 4) (lv' := fun v4_7 => [(4, .int v4_7), (0, .ref 43), (5, .int v5_6)]) hc dX8_about_143 (hN 4 rfl) (fun _ => rfl) rfl (fun v4_7 => ?_)
        refine w_iincB (q := 148) (i := 5) (j := 2) (lv' := fun v5_8 => [(5, .int v5_8), (4, .int v4_7), (0, .ref 43)]) hc dX8_about_145 rfl ci_1 (hN 5 rfl) (fun _ => rfl) rfl (fun v5_8 => ?_)
        refine w_goto (tgt := 111) hc dX8_about_148 rfl ?_
        refine w_sub [2, 1, 0] rfl ?_
        exact ih v4_7 v5_8
set_option maxRecDepth 100000 in
set_option maxHeartbeats 4000000 in
theorem m_X8_about {l : Launch} {K : KT} {R : MR} {rm : Nat} {a1 : Int64} {a3 : Int32} {I : MI} {L : ML} (hK0 : K = lK rm) (hR0 : R = lR rm) : MFg l yX8_about cX8_about 6 (some .int) 3 67 [.ref 43, .long a1, .int a3] K R I L anIW meW (f_X8_about a1 a3 I L) := by
  refine mf_of (plainFor_of_name (by decide)) (Nat.le_of_ble_eq_true rfl) ?_
  intro G hc _ hK1 hR1 hn hq
  have hK := hK1.trans hK0
  have hR := hR1.trans hR0
  have hN : ∀ i, Nat.blt i 6 = true → i < gnL G := fun i h => hn ▸ Nat.blt_eq.mp h
  unfold f_X8_about
  show WW G 0 [(0, .ref 43), (1, .long a1), (3, .int a3)] [] I L _
  refine w_aload_n (q := 1) (i := 0) (j := 0) hc dX8_about_0 rfl rfl rfl ?_
  refine w_aload_n (q := 2) (i := 0) (j := 0) hc dX8_about_1 rfl rfl rfl ?_
  refine w_lload_n (q := 3) (i := 1) (j := 1) hc dX8_about_2 rfl rfl rfl ?_
  refine w_aload_n (q := 4) (i := 0) (j := 0) hc dX8_about_3 rfl rfl rfl ?_
  refine gf_X8_16 (q := 7) hc dX8_about_4 (k_43 hK) (r_43_6 hR) rfl ?_
  refine w_callV_Wz (q := 10) (st := [.ref 43]) (args := [.long a1, .ref 46]) (p := 43) hc (m_X8_lies hK hR (kB hK (k_46 hK))) dX8_about_7 ml_X8_217 cf_X8_lies iv_X8_lies (k_43 hK) (C := RX8) (T := TX8) (N := 45) rfl rfl (Nat.lt_of_succ_le (Nat.le_of_ble_eq_true rfl)) rfl rfl (Nat.le_of_ble_eq_true rfl) ⟨Nat.le_of_ble_eq_true rfl, Nat.le_of_ble_eq_true rfl⟩ rfl (fun q_1 => ?_)
  refine w_join (fun j30_224 : Bool → Option (Int32 × Mm) => ∀ (s0_3 : Bool), WW G 30 [(0, .ref 43), (3, .int a3)] [.int (b2i s0_3), .ref 43] q_1.2.1 q_1.2.2 (j30_224 s0_3)) ?_ ?_
  · intro s0_3
    refine w_callV_Wz (q := 33) (st := []) (args := [.int (b2i s0_3)]) (p := 43) hc (m_X8_is hK hR) dX8_about_30 ml_X8_194 cf_X8_is iv_X8_is (k_43 hK) (C := RX8) (T := TX8) (N := 45) rfl rfl (Nat.lt_of_succ_le (Nat.le_of_ble_eq_true rfl)) rfl rfl (Nat.le_of_ble_eq_true rfl) ⟨Nat.le_of_ble_eq_true rfl, Nat.le_of_ble_eq_true rfl⟩ rfl (fun q_4 => ?_)
    refine w_ifne (q := 36) (tgt := 38) hc dX8_about_33 rfl rfl ?_ ?_
    · refine w_iconst (q := 37) hc dX8_about_36 ci_m1 rfl ?_
      exact w_ireturn (v := (-1)) hc hq dX8_about_37 rfl rfl rfl
    · refine w_iload_n (q := 39) (i := 3) (j := 1) hc dX8_about_38 rfl rfl rfl ?_
      refine w_iconst (q := 40) hc dX8_about_39 ci_3 rfl ?_
      refine w_icmpge (q := 43) (tgt := 83) hc dX8_about_40 rfl rfl ?_ ?_
      · refine w_iload_n (q := 84) (i := 3) (j := 1) hc dX8_about_83 rfl rfl rfl ?_
        refine w_iconst (q := 85) hc dX8_about_84 ci_3 rfl ?_
        refine w_icmpne (q := 88) (tgt := 105) hc dX8_about_85 rfl rfl ?_ ?_
        · refine w_aload_n (q := 89) (i := 0) (j := 0) hc dX8_about_88 rfl rfl rfl ?_
          refine w_aload_n (q := 90) (i := 0) (j := 0) hc dX8_about_89 rfl rfl rfl ?_
          refine gf_X8_16 (q := 93) hc dX8_about_90 (k_43 hK) (r_43_6 hR) rfl ?_
          refine w_callV_Rz (q := 96) (st := []) (args := [.ref 46]) (p := 43) hc (m_X8_isEven hK hR (kB hK (k_46 hK))) dX8_about_93 ml_X8_254 cf_X8_isEven iv_X8_isEven (k_43 hK) (C := RX8) (T := TX8) (N := 45) rfl rfl (Nat.lt_of_succ_le (Nat.le_of_ble_eq_true rfl)) rfl rfl (Nat.le_of_ble_eq_true rfl) ⟨Nat.le_of_ble_eq_true rfl, Nat.le_of_ble_eq_true rfl⟩ rfl (fun q_11 => ?_)
          refine w_ifeq (q := 99) (tgt := 103) hc dX8_about_96 rfl rfl ?_ ?_
          · refine w_iconst (q := 104) hc dX8_about_103 ci_0 rfl ?_
            exact w_ireturn (v := 0) hc hq dX8_about_104 rfl rfl rfl
          · refine w_iconst (q := 100) hc dX8_about_99 ci_1 rfl ?_
            refine w_goto (tgt := 104) hc dX8_about_100 rfl ?_
            exact w_ireturn (v := 1) hc hq dX8_about_104 rfl rfl rfl
        · refine w_iconst (q := 106) hc dX8_about_105 ci_0 rfl ?_
          refine w_istore (q := 108) (i := 4) (lv' := [(4, .int 0), (0, .ref 43), (3, .int a3)]) hc dX8_about_106 (hN 4 rfl) rfl rfl ?_
          refine w_iconst (q := 109) hc dX8_about_108 ci_0 rfl ?_
          refine w_istore (q := 111) (i := 5) (lv' := [(5, .int 0), (4, .int 0), (0, .ref 43), (3, .int a3)]) hc dX8_about_109 (hN 5 rfl) rfl rfl ?_
          refine w_sub [2, 1, 0] rfl ?_
          exact wl_X8_about_111 q_4.2.1 q_4.2.2 hc hq hK hR hn FU 0 0
      · refine w_iload_n (q := 44) (i := 3) (j := 1) hc dX8_about_43 rfl rfl rfl ?_
        refine w_ifne (q := 47) (tgt := 58) hc dX8_about_44 rfl rfl ?_ ?_
        · refine w_aload_n (q := 48) (i := 0) (j := 0) hc dX8_about_47 rfl rfl rfl ?_
          refine w_aload_n (q := 49) (i := 0) (j := 0) hc dX8_about_48 rfl rfl rfl ?_
          refine gf_X8_16 (q := 52) hc dX8_about_49 (k_43 hK) (r_43_6 hR) rfl ?_
          refine w_callV_Ri (q := 55) (st := []) (args := [.ref 46]) (p := 43) hc (m_X8_orderOf_ hK hR (kB hK (k_46 hK))) dX8_about_52 ml_X8_249 cf_X8_orderOf_ iv_X8_orderOf_ (k_43 hK) (C := RX8) (T := TX8) (N := 45) rfl rfl (Nat.lt_of_succ_le (Nat.le_of_ble_eq_true rfl)) rfl rfl (Nat.le_of_ble_eq_true rfl) ⟨Nat.le_of_ble_eq_true rfl, Nat.le_of_ble_eq_true rfl⟩ rfl (fun q_14 => ?_)
          refine w_goto (tgt := 82) hc dX8_about_55 rfl ?_
          exact w_ireturn (v := q_14) hc hq dX8_about_82 rfl rfl rfl
        · refine w_iload_n (q := 59) (i := 3) (j := 1) hc dX8_about_58 rfl rfl rfl ?_
          refine w_iconst (q := 60) hc dX8_about_59 ci_1 rfl ?_
          refine w_icmpne (q := 63) (tgt := 74) hc dX8_about_60 rfl rfl ?_ ?_
          · refine w_aload_n (q := 64) (i := 0) (j := 0) hc dX8_about_63 rfl rfl rfl ?_
            refine w_aload_n (q := 65) (i := 0) (j := 0) hc dX8_about_64 rfl rfl rfl ?_
            refine gf_X8_16 (q := 68) hc dX8_about_65 (k_43 hK) (r_43_6 hR) rfl ?_
            refine w_callV_Ri (q := 71) (st := []) (args := [.ref 46]) (p := 43) hc (m_X8_cycles hK hR (kB hK (k_46 hK))) dX8_about_68 ml_X8_243 cf_X8_cycles iv_X8_cycles (k_43 hK) (C := RX8) (T := TX8) (N := 45) rfl rfl (Nat.lt_of_succ_le (Nat.le_of_ble_eq_true rfl)) rfl rfl (Nat.le_of_ble_eq_true rfl) ⟨Nat.le_of_ble_eq_true rfl, Nat.le_of_ble_eq_true rfl⟩ rfl (fun q_13 => ?_)
            refine w_goto (tgt := 82) hc dX8_about_71 rfl ?_
            exact w_ireturn (v := q_13) hc hq dX8_about_82 rfl rfl rfl
          · refine w_aload_n (q := 75) (i := 0) (j := 0) hc dX8_about_74 rfl rfl rfl ?_
            refine w_aload_n (q := 76) (i := 0) (j := 0) hc dX8_about_75 rfl rfl rfl ?_
            refine gf_X8_16 (q := 79) hc dX8_about_76 (k_43 hK) (r_43_6 hR) rfl ?_
            refine w_callV_Ri (q := 82) (st := []) (args := [.ref 46]) (p := 43) hc (m_X8_staying hK hR (kB hK (k_46 hK))) dX8_about_79 ml_X8_251 cf_X8_staying iv_X8_staying (k_43 hK) (C := RX8) (T := TX8) (N := 45) rfl rfl (Nat.lt_of_succ_le (Nat.le_of_ble_eq_true rfl)) rfl rfl (Nat.le_of_ble_eq_true rfl) ⟨Nat.le_of_ble_eq_true rfl, Nat.le_of_ble_eq_true rfl⟩ rfl (fun q_12 => ?_)
            exact w_ireturn (v := q_12) hc hq dX8_about_82 rfl rfl rfl
  · intro j30_224 hj30_224
    refine w_join (fun j29_225 : Option (Int32 × Mm) => WW G 29 [(0, .ref 43), (3, .int a3)] [.ref 43] q_1.2.1 q_1.2.2 (j29_225)) ?_ ?_
    · refine w_iconst (q := 30) hc dX8_about_29 ci_1 rfl ?_
      exact hj30_224 true
    · intro j29_225 hj29_225
      refine w_ifeq (q := 13) (tgt := 29) hc dX8_about_10 rfl rfl ?_ ?_
      · refine w_sub [0, 2] rfl ?_
        exact hj29_225
      · refine w_iload_n (q := 14) (i := 3) (j := 2) hc dX8_about_13 rfl rfl rfl ?_
        refine w_i2l (q := 15) hc dX8_about_14  rfl ?_
        refine w_lconst (q := 16) hc dX8_about_15 cl_0 rfl ?_
        refine w_ldc2 (q := 19) hc dX8_about_16 kl_X8_247 rfl ?_
        refine w_callS_Rz (q := 22) (st := [.ref 43]) (args := [.long (Int32.toInt64 a3), .long 0, .long 4]) hc (m_X8_isIn hK hR) dX8_about_19 ml_X8_114 cf_X8_isIn st_X8_isIn rfl rfl (Nat.le_of_ble_eq_true rfl) ⟨Nat.le_of_ble_eq_true rfl, Nat.le_of_ble_eq_true rfl⟩ rfl (fun q_2 => ?_)
        refine w_ifeq (q := 25) (tgt := 29) hc dX8_about_22 rfl rfl ?_ ?_
        · refine w_sub [0, 2] rfl ?_
          exact hj29_225
        · refine w_iconst (q := 26) hc dX8_about_25 ci_0 rfl ?_
          refine w_goto (tgt := 30) hc dX8_about_26 rfl ?_
          refine w_sub [0, 2] rfl ?_
          exact hj30_224 false
set_option maxRecDepth 100000 in
set_option maxHeartbeats 4000000 in
theorem wl_X8_orbitOf_29 {G : GT Int32} {rm : Nat} (v3_9 : Int32) (v4_10 : Int32) (I : MI) (L : ML) (hc : Cx G cX8_orbitOf yX8_orbitOf.cls (some .int) 1 21) (hq : RetQ G anI (meR I L)) (hK : gK G = lK rm) (hR : gR G = lR rm) (hn : gnL G = 6) (k0 : Int32 → Option Int32) (hk0 : ∀ (v2_17 : Int32), WW G 78 [(0, .ref 43), (2, .int v2_17), (3, .int v3_9), (4, .int v4_10)] [] I L (k0 v2_17)) : ∀ (n : Nat) (v2_8 : Int32) (v5_11 : Int32), WW G 29 [(0, .ref 43), (2, .int v2_8), (3, .int v3_9), (4, .int v4_10), (5, .int v5_11)] [] I L (f_X8_orbitOf_29 v3_9 v4_10 I L k0 n v2_8 v5_11) := by
  have hN : ∀ i, Nat.blt i 6 = true → i < gnL G := fun i h => hn ▸ Nat.blt_eq.mp h
  intro n
  induction n with
  | zero => intros; exact w_none _ _ _
  | succ n ih =>
    intros v2_8 v5_11
    rw [f_X8_orbitOf_29]
    refine w_iload (q := 31) (i := 5) (j := 4) hc dX8_orbitOf_29 rfl rfl ?_
    refine w_aload_n (q := 32) (i := 0) (j := 0) hc dX8_orbitOf_31 rfl rfl rfl ?_
    refine gf_X8_118 (q := 35) hc dX8_orbitOf_32 (k_43 hK) rfl ?_
    refine w_icmpge (q := 38) (tgt := 78) hc dX8_orbitOf_35 rfl rfl ?_ ?_
    · refine w_sub [0, 1, 2, 3] rfl ?_
      exact hk0 v2_8
    · refine w_iload_n (q := 39) (i := 2) (j := 1) hc dX8_orbitOf_38 rfl rfl rfl ?_
      refine w_iload_n (q := 40) (i := 2) (j := 1) hc dX8_orbitOf_39 rfl rfl rfl ?_
      refine w_iload (q := 42) (i := 5) (j := 4) hc dX8_orbitOf_40 rfl rfl ?_
      refine w_callS_Rz (q := 45) (st := [.int v2_8]) (args := [.int v2_8, .int v5_11]) hc (m_X8_bit hK hR) dX8_orbitOf_42 ml_X8_157 cf_X8_bit st_X8_bit rfl rfl (Nat.le_of_ble_eq_true rfl) ⟨Nat.le_of_ble_eq_true rfl, Nat.le_of_ble_eq_true rfl⟩ rfl (fun q_12 => ?_)
      refine w_ifeq (q := 48) (tgt := 69) hc dX8_orbitOf_45 rfl rfl ?_ ?_
      · refine w_iconst (q := 70) hc dX8_orbitOf_69 ci_0 rfl ?_
        refine w_ior (q := 71) hc dX8_orbitOf_70  rfl ?_
        refine w_istore_nB (q := 72) (i := 2) (lv' := fun v2_13 => [(2, .int v2_13), (0, .ref 43), (3, .int v3_9), (4, .int v4_10), (5, .int v5_11)]) hc dX8_orbitOf_71 rfl (hN 2 rfl) (fun _ => rfl) rfl (fun v2_13 => ?_)
        refine w_iincB (q := 75) (i := 5) (j := 4) (lv' := fun v5_14 => [(5, .int v5_14), (2, .int v2_13), (0, .ref 43), (3, .int v3_9), (4, .int v4_10)]) hc dX8_orbitOf_72 rfl ci_1 (hN 5 rfl) (fun _ => rfl) rfl (fun v5_14 => ?_)
        refine w_goto (tgt := 29) hc dX8_orbitOf_75 rfl ?_
        refine w_sub [2, 1, 3, 4, 0] rfl ?_
        exact ih v2_13 v5_14
      · refine w_iconst (q := 49) hc dX8_orbitOf_48 ci_1 rfl ?_
        refine w_aload_n (q := 50) (i := 0) (j := 0) hc dX8_orbitOf_49 rfl rfl rfl ?_
        refine gf_X8_7 (q := 53) hc dX8_orbitOf_50 (k_43 hK) (r_43_4 hR) rfl ?_
        refine w_bipush (q := 55) hc dX8_orbitOf_53 cb_11 rfl ?_
        refine w_bipush (q := 57) hc dX8_orbitOf_55 cb_10 rfl ?_
        refine w_iload (q := 59) (i := 4) (j := 3) hc dX8_orbitOf_57 rfl rfl ?_
        refine w_imul (q := 60) hc dX8_orbitOf_59  rfl ?_
        refine w_iadd (q := 61) hc dX8_orbitOf_60  rfl ?_
        refine w_iload (q := 63) (i := 5) (j := 4) hc dX8_orbitOf_61 rfl rfl ?_
        refine w_iadd (q := 64) hc dX8_orbitOf_63  rfl ?_
        refine w_iald (q := 65) hc dX8_orbitOf_64 (k_44 hK) rfl ?_
        refine w_ishl (q := 66) hc dX8_orbitOf_65  rfl ?_
        refine w_goto (tgt := 70) hc dX8_orbitOf_66 rfl ?_
        refine w_ior (q := 71) hc dX8_orbitOf_70  rfl ?_
        refine w_istore_nB (q := 72) (i := 2) (lv' := fun v2_15 => [(2, .int v2_15), (0, .ref 43), (3, .int v3_9), (4, .int v4_10), (5, .int v5_11)]) hc dX8_orbitOf_71 rfl (hN 2 rfl) (fun _ => rfl) rfl (fun v2_15 => ?_)
        refine w_iincB (q := 75) (i := 5) (j := 4) (lv' := fun v5_16 => [(5, .int v5_16), (2, .int v2_15), (0, .ref 43), (3, .int v3_9), (4, .int v4_10)]) hc dX8_orbitOf_72 rfl ci_1 (hN 5 rfl) (fun _ => rfl) rfl (fun v5_16 => ?_)
        refine w_goto (tgt := 29) hc dX8_orbitOf_75 rfl ?_
        refine w_sub [2, 1, 3, 4, 0] rfl ?_
        exact ih v2_15 v5_16
set_option maxRecDepth 100000 in
set_option maxHeartbeats 4000000 in
theorem wl_X8_orbitOf_17 {G : GT Int32} {rm : Nat} (v3_5 : Int32) (I : MI) (L : ML) (hc : Cx G cX8_orbitOf yX8_orbitOf.cls (some .int) 1 21) (hq : RetQ G anI (meR I L)) (hK : gK G = lK rm) (hR : gR G = lR rm) (hn : gnL G = 6) (k0 : Int32 → Option Int32) (hk0 : ∀ (v2_19 : Int32), WW G 84 [(0, .ref 43), (2, .int v2_19), (3, .int v3_5)] [] I L (k0 v2_19)) : ∀ (n : Nat) (v2_4 : Int32) (v4_6 : Int32), WW G 17 [(0, .ref 43), (2, .int v2_4), (3, .int v3_5), (4, .int v4_6)] [] I L (f_X8_orbitOf_17 v3_5 I L k0 n v2_4 v4_6) := by
  have hN : ∀ i, Nat.blt i 6 = true → i < gnL G := fun i h => hn ▸ Nat.blt_eq.mp h
  intro n
  induction n with
  | zero => intros; exact w_none _ _ _
  | succ n ih =>
    intros v2_4 v4_6
    rw [f_X8_orbitOf_17]
    refine w_iload (q := 19) (i := 4) (j := 3) hc dX8_orbitOf_17 rfl rfl ?_
    refine w_aload_n (q := 20) (i := 0) (j := 0) hc dX8_orbitOf_19 rfl rfl rfl ?_
    refine w_callV_Ri (q := 23) (st := [.int v4_6]) (args := []) (p := 43) hc (m_X8_moves hK hR) dX8_orbitOf_20 ml_X8_110 cf_X8_moves iv_X8_moves (k_43 hK) (C := RX8) (T := TX8) (N := 45) rfl rfl (Nat.lt_of_succ_le (Nat.le_of_ble_eq_true rfl)) rfl rfl (Nat.le_of_ble_eq_true rfl) ⟨Nat.le_of_ble_eq_true rfl, Nat.le_of_ble_eq_true rfl⟩ rfl (fun q_7 => ?_)
    refine w_icmpge (q := 26) (tgt := 84) hc dX8_orbitOf_23 rfl rfl ?_ ?_
    · refine w_sub [0, 1, 2] rfl ?_
      exact hk0 v2_4
    · refine w_iconst (q := 27) hc dX8_orbitOf_26 ci_0 rfl ?_
      refine w_istore (q := 29) (i := 5) (lv' := [(5, .int 0), (0, .ref 43), (2, .int v2_4), (3, .int v3_5), (4, .int v4_6)]) hc dX8_orbitOf_27 (hN 5 rfl) rfl rfl ?_
      refine w_sub [1, 2, 3, 4, 0] rfl ?_
      refine wl_X8_orbitOf_29 v3_5 v4_6 I L hc hq hK hR hn _ ?_ FU v2_4 0
      intro v2_17
      refine w_iincB (q := 81) (i := 4) (j := 3) (lv' := fun v4_18 => [(4, .int v4_18), (0, .ref 43), (2, .int v2_17), (3, .int v3_5)]) hc dX8_orbitOf_78 rfl ci_1 (hN 4 rfl) (fun _ => rfl) rfl (fun v4_18 => ?_)
      refine w_goto (tgt := 17) hc dX8_orbitOf_81 rfl ?_
      refine w_sub [1, 2, 3, 0] rfl ?_
      exact ih v2_17 v4_18
set_option maxRecDepth 100000 in
set_option maxHeartbeats 4000000 in
theorem wl_X8_orbitOf_6 {G : GT Int32} {rm : Nat} (I : MI) (L : ML) (hc : Cx G cX8_orbitOf yX8_orbitOf.cls (some .int) 1 21) (hq : RetQ G anI (meR I L)) (hK : gK G = lK rm) (hR : gR G = lR rm) (hn : gnL G = 6) : ∀ (n : Nat) (v2_2 : Int32) (v3_3 : Int32), WW G 6 [(0, .ref 43), (2, .int v2_2), (3, .int v3_3)] [] I L (f_X8_orbitOf_6 I L n v2_2 v3_3) := by
  have hN : ∀ i, Nat.blt i 6 = true → i < gnL G := fun i h => hn ▸ Nat.blt_eq.mp h
  intro n
  induction n with
  | zero => intros; exact w_none _ _ _
  | succ n ih =>
    intros v2_2 v3_3
    rw [f_X8_orbitOf_6]
    refine w_iload_n (q := 7) (i := 3) (j := 2) hc dX8_orbitOf_6 rfl rfl rfl ?_
    refine w_aload_n (q := 8) (i := 0) (j := 0) hc dX8_orbitOf_7 rfl rfl rfl ?_
    refine gf_X8_118 (q := 11) hc dX8_orbitOf_8 (k_43 hK) rfl ?_
    refine w_icmpge (q := 14) (tgt := 90) hc dX8_orbitOf_11 rfl rfl ?_ ?_
    · refine w_iload_n (q := 91) (i := 2) (j := 1) hc dX8_orbitOf_90 rfl rfl rfl ?_
      exact w_ireturn (v := v2_2) hc hq dX8_orbitOf_91 rfl rfl rfl
    · refine w_iconst (q := 15) hc dX8_orbitOf_14 ci_0 rfl ?_
      refine w_istore (q := 17) (i := 4) (lv' := [(4, .int 0), (0, .ref 43), (2, .int v2_2), (3, .int v3_3)]) hc dX8_orbitOf_15 (hN 4 rfl) rfl rfl ?_
      refine w_sub [1, 2, 3, 0] rfl ?_
      refine wl_X8_orbitOf_17 v3_3 I L hc hq hK hR hn _ ?_ FU v2_2 0
      intro v2_19
      refine w_iincB (q := 87) (i := 3) (j := 2) (lv' := fun v3_20 => [(3, .int v3_20), (0, .ref 43), (2, .int v2_19)]) hc dX8_orbitOf_84 rfl ci_1 (hN 3 rfl) (fun _ => rfl) rfl (fun v3_20 => ?_)
      refine w_goto (tgt := 6) hc dX8_orbitOf_87 rfl ?_
      refine w_sub [1, 2, 0] rfl ?_
      exact ih v2_19 v3_20
set_option maxRecDepth 100000 in
set_option maxHeartbeats 4000000 in
theorem m_X8_orbitOf {l : Launch} {K : KT} {R : MR} {rm : Nat} {a1 : Int32} {I : MI} {L : ML} (hK0 : K = lK rm) (hR0 : R = lR rm) : MFg l yX8_orbitOf cX8_orbitOf 6 (some .int) 1 21 [.ref 43, .int a1] K R I L anI (meR I L) (f_X8_orbitOf a1 I L) := by
  refine mf_of (plainFor_of_name (by decide)) (Nat.le_of_ble_eq_true rfl) ?_
  intro G hc _ hK1 hR1 hn hq
  have hK := hK1.trans hK0
  have hR := hR1.trans hR0
  have hN : ∀ i, Nat.blt i 6 = true → i < gnL G := fun i h => hn ▸ Nat.blt_eq.mp h
  unfold f_X8_orbitOf
  show WW G 0 [(0, .ref 43), (1, .int a1)] [] I L _
  refine w_iconst (q := 1) hc dX8_orbitOf_0 ci_1 rfl ?_
  refine w_iload_n (q := 2) (i := 1) (j := 1) hc dX8_orbitOf_1 rfl rfl rfl ?_
  refine w_ishl (q := 3) hc dX8_orbitOf_2  rfl ?_
  refine w_istore_nB (q := 4) (i := 2) (lv' := fun v2_1 => [(2, .int v2_1), (0, .ref 43), (1, .int a1)]) hc dX8_orbitOf_3 rfl (hN 2 rfl) (fun _ => rfl) rfl (fun v2_1 => ?_)
  refine w_iconst (q := 5) hc dX8_orbitOf_4 ci_0 rfl ?_
  refine w_istore_n (q := 6) (i := 3) (lv' := [(3, .int 0), (2, .int v2_1), (0, .ref 43), (1, .int a1)]) hc dX8_orbitOf_5 rfl (hN 3 rfl) rfl rfl ?_
  refine w_sub [2, 1, 0] rfl ?_
  exact wl_X8_orbitOf_6 I L hc hq hK hR hn FU v2_1 0
set_option maxRecDepth 100000 in
set_option maxHeartbeats 4000000 in
theorem m_X8_orbit {l : Launch} {K : KT} {R : MR} {rm : Nat} {a1 : Int32} {I : MI} {L : ML} (hK0 : K = lK rm) (hR0 : R = lR rm) : MFg l yX8_orbit cX8_orbit 2 (some .int) 2 46 [.ref 43, .int a1] K R I L anIW meW (f_X8_orbit a1 I L) := by
  refine mf_of (plainFor_of_name (by decide)) (Nat.le_of_ble_eq_true rfl) ?_
  intro G hc _ hK1 hR1 hn hq
  have hK := hK1.trans hK0
  have hR := hR1.trans hR0
  have hN : ∀ i, Nat.blt i 2 = true → i < gnL G := fun i h => hn ▸ Nat.blt_eq.mp h
  unfold f_X8_orbit
  show WW G 0 [(0, .ref 43), (1, .int a1)] [] I L _
  refine w_aload_n (q := 1) (i := 0) (j := 0) hc dX8_orbit_0 rfl rfl rfl ?_
  refine w_aload_n (q := 2) (i := 0) (j := 0) hc dX8_orbit_1 rfl rfl rfl ?_
  refine w_iload_n (q := 3) (i := 1) (j := 1) hc dX8_orbit_2 rfl rfl rfl ?_
  refine w_callV_Rz (q := 6) (st := [.ref 43]) (args := [.int a1]) (p := 43) hc (m_X8_isPoint hK hR) dX8_orbit_3 ml_X8_221 cf_X8_isPoint iv_X8_isPoint (k_43 hK) (C := RX8) (T := TX8) (N := 45) rfl rfl (Nat.lt_of_succ_le (Nat.le_of_ble_eq_true rfl)) rfl rfl (Nat.le_of_ble_eq_true rfl) ⟨Nat.le_of_ble_eq_true rfl, Nat.le_of_ble_eq_true rfl⟩ rfl (fun q_1 => ?_)
  refine w_ifeq (q := 9) (tgt := 13) hc dX8_orbit_6 rfl rfl ?_ ?_
  · refine w_iconst (q := 14) hc dX8_orbit_13 ci_2 rfl ?_
    refine w_callV_Wz (q := 17) (st := []) (args := [.int 2]) (p := 43) hc (m_X8_is hK hR) dX8_orbit_14 ml_X8_194 cf_X8_is iv_X8_is (k_43 hK) (C := RX8) (T := TX8) (N := 45) rfl rfl (Nat.lt_of_succ_le (Nat.le_of_ble_eq_true rfl)) rfl rfl (Nat.le_of_ble_eq_true rfl) ⟨Nat.le_of_ble_eq_true rfl, Nat.le_of_ble_eq_true rfl⟩ rfl (fun q_2 => ?_)
    refine w_ifeq (q := 20) (tgt := 28) hc dX8_orbit_17 rfl rfl ?_ ?_
    · refine w_iconst (q := 29) hc dX8_orbit_28 ci_m1 rfl ?_
      exact w_ireturn (v := (-1)) hc hq dX8_orbit_29 rfl rfl rfl
    · refine w_aload_n (q := 21) (i := 0) (j := 0) hc dX8_orbit_20 rfl rfl rfl ?_
      refine w_iload_n (q := 22) (i := 1) (j := 1) hc dX8_orbit_21 rfl rfl rfl ?_
      refine w_callV_Ri (q := 25) (st := []) (args := [.int a1]) (p := 43) hc (m_X8_orbitOf hK hR) dX8_orbit_22 ml_X8_257 cf_X8_orbitOf iv_X8_orbitOf (k_43 hK) (C := RX8) (T := TX8) (N := 45) rfl rfl (Nat.lt_of_succ_le (Nat.le_of_ble_eq_true rfl)) rfl rfl (Nat.le_of_ble_eq_true rfl) ⟨Nat.le_of_ble_eq_true rfl, Nat.le_of_ble_eq_true rfl⟩ rfl (fun q_3 => ?_)
      refine w_goto (tgt := 29) hc dX8_orbit_25 rfl ?_
      exact w_ireturn (v := q_3) hc hq dX8_orbit_29 rfl rfl rfl
  · refine w_iconst (q := 10) hc dX8_orbit_9 ci_0 rfl ?_
    refine w_goto (tgt := 14) hc dX8_orbit_10 rfl ?_
    refine w_callV_Wz (q := 17) (st := []) (args := [.int 0]) (p := 43) hc (m_X8_is hK hR) dX8_orbit_14 ml_X8_194 cf_X8_is iv_X8_is (k_43 hK) (C := RX8) (T := TX8) (N := 45) rfl rfl (Nat.lt_of_succ_le (Nat.le_of_ble_eq_true rfl)) rfl rfl (Nat.le_of_ble_eq_true rfl) ⟨Nat.le_of_ble_eq_true rfl, Nat.le_of_ble_eq_true rfl⟩ rfl (fun q_4 => ?_)
    refine w_ifeq (q := 20) (tgt := 28) hc dX8_orbit_17 rfl rfl ?_ ?_
    · refine w_iconst (q := 29) hc dX8_orbit_28 ci_m1 rfl ?_
      exact w_ireturn (v := (-1)) hc hq dX8_orbit_29 rfl rfl rfl
    · refine w_aload_n (q := 21) (i := 0) (j := 0) hc dX8_orbit_20 rfl rfl rfl ?_
      refine w_iload_n (q := 22) (i := 1) (j := 1) hc dX8_orbit_21 rfl rfl rfl ?_
      refine w_callV_Ri (q := 25) (st := []) (args := [.int a1]) (p := 43) hc (m_X8_orbitOf hK hR) dX8_orbit_22 ml_X8_257 cf_X8_orbitOf iv_X8_orbitOf (k_43 hK) (C := RX8) (T := TX8) (N := 45) rfl rfl (Nat.lt_of_succ_le (Nat.le_of_ble_eq_true rfl)) rfl rfl (Nat.le_of_ble_eq_true rfl) ⟨Nat.le_of_ble_eq_true rfl, Nat.le_of_ble_eq_true rfl⟩ rfl (fun q_5 => ?_)
      refine w_goto (tgt := 29) hc dX8_orbit_25 rfl ?_
      exact w_ireturn (v := q_5) hc hq dX8_orbit_29 rfl rfl rfl
set_option maxRecDepth 100000 in
set_option maxHeartbeats 4000000 in
theorem wl_X8_orbits_18 {G : GT (Int32 × Mm)} {rm : Nat} (I : MI) (L : ML) (hc : Cx G cX8_orbits yX8_orbits.cls (some .int) 2 46) (hq : RetQ G anIW meW) (hK : gK G = lK rm) (hR : gR G = lR rm) (hn : gnL G = 3) : ∀ (n : Nat) (v1_3 : Int32) (v2_4 : Int32), WW G 18 [(0, .ref 43), (1, .int v1_3), (2, .int v2_4)] [] I L (f_X8_orbits_18 I L n v1_3 v2_4) := by
  have hN : ∀ i, Nat.blt i 3 = true → i < gnL G := fun i h => hn ▸ Nat.blt_eq.mp h
  intro n
  induction n with
  | zero => intros; exact w_none _ _ _
  | succ n ih =>
    intros v1_3 v2_4
    rw [f_X8_orbits_18]
    refine w_iload_n (q := 19) (i := 2) (j := 2) hc dX8_orbits_18 rfl rfl rfl ?_
    refine w_aload_n (q := 20) (i := 0) (j := 0) hc dX8_orbits_19 rfl rfl rfl ?_
    refine gf_X8_118 (q := 23) hc dX8_orbits_20 (k_43 hK) rfl ?_
    refine w_icmpge (q := 26) (tgt := 54) hc dX8_orbits_23 rfl rfl ?_ ?_
    · refine w_iload_n (q := 55) (i := 1) (j := 1) hc dX8_orbits_54 rfl rfl rfl ?_
      exact w_ireturn (v := v1_3) hc hq dX8_orbits_55 rfl rfl rfl
    · refine w_iload_n (q := 27) (i := 1) (j := 1) hc dX8_orbits_26 rfl rfl rfl ?_
      refine w_aload_n (q := 28) (i := 0) (j := 0) hc dX8_orbits_27 rfl rfl rfl ?_
      refine w_iload_n (q := 29) (i := 2) (j := 2) hc dX8_orbits_28 rfl rfl rfl ?_
      refine w_callV_Ri (q := 32) (st := [.int v1_3]) (args := [.int v2_4]) (p := 43) hc (m_X8_orbitOf hK hR) dX8_orbits_29 ml_X8_257 cf_X8_orbitOf iv_X8_orbitOf (k_43 hK) (C := RX8) (T := TX8) (N := 45) rfl rfl (Nat.lt_of_succ_le (Nat.le_of_ble_eq_true rfl)) rfl rfl (Nat.le_of_ble_eq_true rfl) ⟨Nat.le_of_ble_eq_true rfl, Nat.le_of_ble_eq_true rfl⟩ rfl (fun q_5 => ?_)
      refine w_iconst (q := 33) hc dX8_orbits_32 ci_1 rfl ?_
      refine w_iload_n (q := 34) (i := 2) (j := 2) hc dX8_orbits_33 rfl rfl rfl ?_
      refine w_ishl (q := 35) hc dX8_orbits_34  rfl ?_
      refine w_iconst (q := 36) hc dX8_orbits_35 ci_1 rfl ?_
      refine w_isub (q := 37) hc dX8_orbits_36  rfl ?_
      refine w_iand (q := 38) hc dX8_orbits_37  rfl ?_
      refine w_ifne (q := 41) (tgt := 45) hc dX8_orbits_38 rfl rfl ?_ ?_
      · refine w_iconst (q := 42) hc dX8_orbits_41 ci_1 rfl ?_
        refine w_goto (tgt := 46) hc dX8_orbits_42 rfl ?_
        refine w_iadd (q := 47) hc dX8_orbits_46  rfl ?_
        refine w_istore_nB (q := 48) (i := 1) (lv' := fun v1_8 => [(1, .int v1_8), (0, .ref 43), (2, .int v2_4)]) hc dX8_orbits_47 rfl (hN 1 rfl) (fun _ => rfl) rfl (fun v1_8 => ?_)
        refine w_iincB (q := 51) (i := 2) (j := 2) (lv' := fun v2_9 => [(2, .int v2_9), (1, .int v1_8), (0, .ref 43)]) hc dX8_orbits_48 rfl ci_1 (hN 2 rfl) (fun _ => rfl) rfl (fun v2_9 => ?_)
        refine w_goto (tgt := 18) hc dX8_orbits_51 rfl ?_
        refine w_sub [2, 1, 0] rfl ?_
        exact ih v1_8 v2_9
      · refine w_iconst (q := 46) hc dX8_orbits_45 ci_0 rfl ?_
        refine w_iadd (q := 47) hc dX8_orbits_46  rfl ?_
        refine w_istore_nB (q := 48) (i := 1) (lv' := fun v1_6 => [(1, .int v1_6), (0, .ref 43), (2, .int v2_4)]) hc dX8_orbits_47 rfl (hN 1 rfl) (fun _ => rfl) rfl (fun v1_6 => ?_)
        refine w_iincB (q := 51) (i := 2) (j := 2) (lv' := fun v2_7 => [(2, .int v2_7), (1, .int v1_6), (0, .ref 43)]) hc dX8_orbits_48 rfl ci_1 (hN 2 rfl) (fun _ => rfl) rfl (fun v2_7 => ?_)
        refine w_goto (tgt := 18) hc dX8_orbits_51 rfl ?_
        refine w_sub [2, 1, 0] rfl ?_
        exact ih v1_6 v2_7
set_option maxRecDepth 100000 in
set_option maxHeartbeats 4000000 in
theorem m_X8_orbits {l : Launch} {K : KT} {R : MR} {rm : Nat} {I : MI} {L : ML} (hK0 : K = lK rm) (hR0 : R = lR rm) : MFg l yX8_orbits cX8_orbits 3 (some .int) 2 46 [.ref 43] K R I L anIW meW (f_X8_orbits I L) := by
  refine mf_of (plainFor_of_name (by decide)) (Nat.le_of_ble_eq_true rfl) ?_
  intro G hc _ hK1 hR1 hn hq
  have hK := hK1.trans hK0
  have hR := hR1.trans hR0
  have hN : ∀ i, Nat.blt i 3 = true → i < gnL G := fun i h => hn ▸ Nat.blt_eq.mp h
  unfold f_X8_orbits
  show WW G 0 [(0, .ref 43)] [] I L _
  refine w_aload_n (q := 1) (i := 0) (j := 0) hc dX8_orbits_0 rfl rfl rfl ?_
  refine w_aload_n (q := 2) (i := 0) (j := 0) hc dX8_orbits_1 rfl rfl rfl ?_
  refine w_iconst (q := 3) hc dX8_orbits_2 ci_0 rfl ?_
  refine w_callV_Ri (q := 6) (st := [.ref 43]) (args := [.int 0]) (p := 43) hc (m_X8_whyHere hK hR) dX8_orbits_3 ml_X8_260 cf_X8_whyHere iv_X8_whyHere (k_43 hK) (C := RX8) (T := TX8) (N := 45) rfl rfl (Nat.lt_of_succ_le (Nat.le_of_ble_eq_true rfl)) rfl rfl (Nat.le_of_ble_eq_true rfl) ⟨Nat.le_of_ble_eq_true rfl, Nat.le_of_ble_eq_true rfl⟩ rfl (fun q_1 => ?_)
  refine w_callV_Wz (q := 9) (st := []) (args := [.int q_1]) (p := 43) hc (m_X8_is hK hR) dX8_orbits_6 ml_X8_194 cf_X8_is iv_X8_is (k_43 hK) (C := RX8) (T := TX8) (N := 45) rfl rfl (Nat.lt_of_succ_le (Nat.le_of_ble_eq_true rfl)) rfl rfl (Nat.le_of_ble_eq_true rfl) ⟨Nat.le_of_ble_eq_true rfl, Nat.le_of_ble_eq_true rfl⟩ rfl (fun q_2 => ?_)
  refine w_ifne (q := 12) (tgt := 14) hc dX8_orbits_9 rfl rfl ?_ ?_
  · refine w_iconst (q := 13) hc dX8_orbits_12 ci_m1 rfl ?_
    exact w_ireturn (v := (-1)) hc hq dX8_orbits_13 rfl rfl rfl
  · refine w_iconst (q := 15) hc dX8_orbits_14 ci_0 rfl ?_
    refine w_istore_n (q := 16) (i := 1) (lv' := [(1, .int 0), (0, .ref 43)]) hc dX8_orbits_15 rfl (hN 1 rfl) rfl rfl ?_
    refine w_iconst (q := 17) hc dX8_orbits_16 ci_0 rfl ?_
    refine w_istore_n (q := 18) (i := 2) (lv' := [(2, .int 0), (1, .int 0), (0, .ref 43)]) hc dX8_orbits_17 rfl (hN 2 rfl) rfl rfl ?_
    refine w_sub [2, 1, 0] rfl ?_
    exact wl_X8_orbits_18 q_2.2.1 q_2.2.2 hc hq hK hR hn FU 0 0
set_option maxRecDepth 100000 in
set_option maxHeartbeats 4000000 in
theorem wl_X8_baseAt_8 {G : GT (Int32 × Mm)} {rm : Nat} (v1_2 : Int32) (I : MI) (L : ML) (hc : Cx G cX8_baseAt yX8_baseAt.cls (some .int) 8 184) (hq : RetQ G anIW meW) (hK : gK G = lK rm) (hR : gR G = lR rm) (hn : gnL G = 4) : ∀ (n : Nat) (v2_3 : Int32) (v3_4 : Int32), WW G 8 [(0, .ref 43), (1, .int v1_2), (2, .int v2_3), (3, .int v3_4)] [] I L (f_X8_baseAt_8 v1_2 I L n v2_3 v3_4) := by
  have hN : ∀ i, Nat.blt i 4 = true → i < gnL G := fun i h => hn ▸ Nat.blt_eq.mp h
  intro n
  induction n with
  | zero => intros; exact w_none _ _ _
  | succ n ih =>
    intros v2_3 v3_4
    rw [f_X8_baseAt_8]
    refine w_iload_n (q := 9) (i := 3) (j := 3) hc dX8_baseAt_8 rfl rfl rfl ?_
    refine w_aload_n (q := 10) (i := 0) (j := 0) hc dX8_baseAt_9 rfl rfl rfl ?_
    refine gf_X8_118 (q := 13) hc dX8_baseAt_10 (k_43 hK) rfl ?_
    refine w_icmpge (q := 16) (tgt := 45) hc dX8_baseAt_13 rfl rfl ?_ ?_
    · refine w_iconst (q := 46) hc dX8_baseAt_45 ci_m1 rfl ?_
      exact w_ireturn (v := (-1)) hc hq dX8_baseAt_46 rfl rfl rfl
    · refine w_aload_n (q := 17) (i := 0) (j := 0) hc dX8_baseAt_16 rfl rfl rfl ?_
      refine w_iconst (q := 18) hc dX8_baseAt_17 ci_0 rfl ?_
      refine w_iload_n (q := 19) (i := 3) (j := 3) hc dX8_baseAt_18 rfl rfl rfl ?_
      refine w_callV_Ri (q := 22) (st := []) (args := [.int 0, .int v3_4]) (p := 43) hc (m_X8_widthAt hK hR) dX8_baseAt_19 ml_X8_164 cf_X8_widthAt iv_X8_widthAt (k_43 hK) (C := RX8) (T := TX8) (N := 45) rfl rfl (Nat.lt_of_succ_le (Nat.le_of_ble_eq_true rfl)) rfl rfl (Nat.le_of_ble_eq_true rfl) ⟨Nat.le_of_ble_eq_true rfl, Nat.le_of_ble_eq_true rfl⟩ rfl (fun q_5 => ?_)
      refine w_iconst (q := 23) hc dX8_baseAt_22 ci_1 rfl ?_
      refine w_icmpne (q := 26) (tgt := 29) hc dX8_baseAt_23 rfl rfl ?_ ?_
      · refine w_goto (tgt := 39) hc dX8_baseAt_26 rfl ?_
        refine w_iincB (q := 42) (i := 3) (j := 3) (lv' := fun v3_8 => [(3, .int v3_8), (0, .ref 43), (1, .int v1_2), (2, .int v2_3)]) hc dX8_baseAt_39 rfl ci_1 (hN 3 rfl) (fun _ => rfl) rfl (fun v3_8 => ?_)
        refine w_goto (tgt := 8) hc dX8_baseAt_42 rfl ?_
        refine w_sub [1, 2, 3, 0] rfl ?_
        exact ih v2_3 v3_8
      · refine w_iload_n (q := 30) (i := 2) (j := 2) hc dX8_baseAt_29 rfl rfl rfl ?_
        refine w_iload_n (q := 31) (i := 1) (j := 1) hc dX8_baseAt_30 rfl rfl rfl ?_
        refine w_icmpne (q := 34) (tgt := 36) hc dX8_baseAt_31 rfl rfl ?_ ?_
        · refine w_iload_n (q := 35) (i := 3) (j := 3) hc dX8_baseAt_34 rfl rfl rfl ?_
          exact w_ireturn (v := v3_4) hc hq dX8_baseAt_35 rfl rfl rfl
        · refine w_iincB (q := 39) (i := 2) (j := 2) (lv' := fun v2_6 => [(2, .int v2_6), (0, .ref 43), (1, .int v1_2), (3, .int v3_4)]) hc dX8_baseAt_36 rfl ci_1 (hN 2 rfl) (fun _ => rfl) rfl (fun v2_6 => ?_)
          refine w_iincB (q := 42) (i := 3) (j := 3) (lv' := fun v3_7 => [(3, .int v3_7), (2, .int v2_6), (0, .ref 43), (1, .int v1_2)]) hc dX8_baseAt_39 rfl ci_1 (hN 3 rfl) (fun _ => rfl) rfl (fun v3_7 => ?_)
          refine w_goto (tgt := 8) hc dX8_baseAt_42 rfl ?_
          refine w_sub [2, 3, 1, 0] rfl ?_
          exact ih v2_6 v3_7
set_option maxRecDepth 100000 in
set_option maxHeartbeats 4000000 in
theorem m_X8_baseAt {l : Launch} {K : KT} {R : MR} {rm : Nat} {a1 : Int32} {I : MI} {L : ML} (hK0 : K = lK rm) (hR0 : R = lR rm) : MFg l yX8_baseAt cX8_baseAt 4 (some .int) 8 184 [.ref 43, .int a1] K R I L anIW meW (f_X8_baseAt a1 I L) := by
  refine mf_of (plainFor_of_name (by decide)) (Nat.le_of_ble_eq_true rfl) ?_
  intro G hc _ hK1 hR1 hn hq
  have hK := hK1.trans hK0
  have hR := hR1.trans hR0
  have hN : ∀ i, Nat.blt i 4 = true → i < gnL G := fun i h => hn ▸ Nat.blt_eq.mp h
  unfold f_X8_baseAt
  show WW G 0 [(0, .ref 43), (1, .int a1)] [] I L _
  refine w_aload_n (q := 1) (i := 0) (j := 0) hc dX8_baseAt_0 rfl rfl rfl ?_
  refine w_callV_Wv (q := 4) (st := []) (args := []) (p := 43) hc (m_X8_builds_ hK hR) dX8_baseAt_1 ml_X8_179 cf_X8_builds_ iv_X8_builds_ (k_43 hK) (C := RX8) (T := TX8) (N := 45) rfl rfl (Nat.lt_of_succ_le (Nat.le_of_ble_eq_true rfl)) rfl rfl (Nat.le_of_ble_eq_true rfl) ⟨Nat.le_of_ble_eq_true rfl, Nat.le_of_ble_eq_true rfl⟩ rfl (fun q_1 => ?_)
  refine w_iconst (q := 5) hc dX8_baseAt_4 ci_0 rfl ?_
  refine w_istore_n (q := 6) (i := 2) (lv' := [(2, .int 0), (0, .ref 43), (1, .int a1)]) hc dX8_baseAt_5 rfl (hN 2 rfl) rfl rfl ?_
  refine w_iconst (q := 7) hc dX8_baseAt_6 ci_0 rfl ?_
  refine w_istore_n (q := 8) (i := 3) (lv' := [(3, .int 0), (2, .int 0), (0, .ref 43), (1, .int a1)]) hc dX8_baseAt_7 rfl (hN 3 rfl) rfl rfl ?_
  refine w_sub [2, 3, 1, 0] rfl ?_
  exact wl_X8_baseAt_8 a1 q_1.1 q_1.2 hc hq hK hR hn FU 0 0
set_option maxRecDepth 100000 in
set_option maxHeartbeats 4000000 in
theorem wl_X8_baseMany_2 {G : GT (Int32 × Mm)} {rm : Nat} (hc : Cx G cX8_baseMany yX8_baseMany.cls (some .int) 9 207) (hq : RetQ G anIW meW) (hK : gK G = lK rm) (hR : gR G = lR rm) (hn : gnL G = 2) : ∀ (n : Nat) (v1_1 : Int32) (I_2 : MI) (L_3 : ML), WW G 2 [(0, .ref 43), (1, .int v1_1)] [] I_2 L_3 (f_X8_baseMany_2 n v1_1 I_2 L_3) := by
  have hN : ∀ i, Nat.blt i 2 = true → i < gnL G := fun i h => hn ▸ Nat.blt_eq.mp h
  intro n
  induction n with
  | zero => intros; exact w_none _ _ _
  | succ n ih =>
    intros v1_1 I_2 L_3
    rw [f_X8_baseMany_2]
    refine w_aload_n (q := 3) (i := 0) (j := 0) hc dX8_baseMany_2 rfl rfl rfl ?_
    refine w_iload_n (q := 4) (i := 1) (j := 1) hc dX8_baseMany_3 rfl rfl rfl ?_
    refine w_callV_Wi (q := 7) (st := []) (args := [.int v1_1]) (p := 43) hc (m_X8_baseAt hK hR) dX8_baseMany_4 ml_X8_263 cf_X8_baseAt iv_X8_baseAt (k_43 hK) (C := RX8) (T := TX8) (N := 45) rfl rfl (Nat.lt_of_succ_le (Nat.le_of_ble_eq_true rfl)) rfl rfl (Nat.le_of_ble_eq_true rfl) ⟨Nat.le_of_ble_eq_true rfl, Nat.le_of_ble_eq_true rfl⟩ rfl (fun q_4 => ?_)
    refine w_iconst (q := 8) hc dX8_baseMany_7 ci_m1 rfl ?_
    refine w_icmpeq (q := 11) (tgt := 17) hc dX8_baseMany_8 rfl rfl ?_ ?_
    · refine w_iload_n (q := 18) (i := 1) (j := 1) hc dX8_baseMany_17 rfl rfl rfl ?_
      exact w_ireturn (v := v1_1) hc hq dX8_baseMany_18 rfl rfl rfl
    · refine w_iincB (q := 14) (i := 1) (j := 1) (lv' := fun v1_5 => [(1, .int v1_5), (0, .ref 43)]) hc dX8_baseMany_11 rfl ci_1 (hN 1 rfl) (fun _ => rfl) rfl (fun v1_5 => ?_)
      refine w_goto (tgt := 2) hc dX8_baseMany_14 rfl ?_
      refine w_sub [1, 0] rfl ?_
      exact ih v1_5 q_4.2.1 q_4.2.2
set_option maxRecDepth 100000 in
set_option maxHeartbeats 4000000 in
theorem m_X8_baseMany {l : Launch} {K : KT} {R : MR} {rm : Nat} {I : MI} {L : ML} (hK0 : K = lK rm) (hR0 : R = lR rm) : MFg l yX8_baseMany cX8_baseMany 2 (some .int) 9 207 [.ref 43] K R I L anIW meW (f_X8_baseMany I L) := by
  refine mf_of (plainFor_of_name (by decide)) (Nat.le_of_ble_eq_true rfl) ?_
  intro G hc _ hK1 hR1 hn hq
  have hK := hK1.trans hK0
  have hR := hR1.trans hR0
  have hN : ∀ i, Nat.blt i 2 = true → i < gnL G := fun i h => hn ▸ Nat.blt_eq.mp h
  unfold f_X8_baseMany
  show WW G 0 [(0, .ref 43)] [] I L _
  refine w_iconst (q := 1) hc dX8_baseMany_0 ci_0 rfl ?_
  refine w_istore_n (q := 2) (i := 1) (lv' := [(1, .int 0), (0, .ref 43)]) hc dX8_baseMany_1 rfl (hN 1 rfl) rfl rfl ?_
  refine w_sub [1, 0] rfl ?_
  exact wl_X8_baseMany_2 hc hq hK hR hn FU 0 I L
set_option maxRecDepth 100000 in
set_option maxHeartbeats 4000000 in
theorem m_X8_there {l : Launch} {K : KT} {R : MR} {rm : Nat} {a1 : Int32} {I : MI} {L : ML} (hK0 : K = lK rm) (hR0 : R = lR rm) : MFg l yX8_there cX8_there 2 (some .int) 1 21 [.ref 43, .int a1] K R I L anIW meW (f_X8_there a1 I L) := by
  refine mf_of (plainFor_of_name (by decide)) (Nat.le_of_ble_eq_true rfl) ?_
  intro G hc _ hK1 hR1 hn hq
  have hK := hK1.trans hK0
  have hR := hR1.trans hR0
  have hN : ∀ i, Nat.blt i 2 = true → i < gnL G := fun i h => hn ▸ Nat.blt_eq.mp h
  unfold f_X8_there
  show WW G 0 [(0, .ref 43), (1, .int a1)] [] I L _
  refine w_iload_n (q := 1) (i := 1) (j := 1) hc dX8_there_0 rfl rfl rfl ?_
  refine w_iconst (q := 2) hc dX8_there_1 ci_m1 rfl ?_
  refine w_icmpne (q := 5) (tgt := 13) hc dX8_there_2 rfl rfl ?_ ?_
  · refine w_aload_n (q := 6) (i := 0) (j := 0) hc dX8_there_5 rfl rfl rfl ?_
    refine w_iconst (q := 7) hc dX8_there_6 ci_5 rfl ?_
    refine w_callV_Wi (q := 10) (st := []) (args := [.int 5]) (p := 43) hc (m_X8_refuse hK hR) dX8_there_7 ml_X8_266 cf_X8_refuse iv_X8_refuse (k_43 hK) (C := RX8) (T := TX8) (N := 45) rfl rfl (Nat.lt_of_succ_le (Nat.le_of_ble_eq_true rfl)) rfl rfl (Nat.le_of_ble_eq_true rfl) ⟨Nat.le_of_ble_eq_true rfl, Nat.le_of_ble_eq_true rfl⟩ rfl (fun q_1 => ?_)
    refine w_goto (tgt := 14) hc dX8_there_10 rfl ?_
    exact w_ireturn (v := q_1.1) hc hq dX8_there_14 rfl rfl rfl
  · refine w_iload_n (q := 14) (i := 1) (j := 1) hc dX8_there_13 rfl rfl rfl ?_
    exact w_ireturn (v := a1) hc hq dX8_there_14 rfl rfl rfl
