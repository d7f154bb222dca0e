set_option maxRecDepth 100000 in
set_option maxHeartbeats 4000000 in
theorem m_X1_forget {l : Launch} {K : KT} {R : MR} {rm : Nat} {db : Nat} {I : MI} {L : ML} (hK0 : K = lK rm) (hR0 : R = lR rm) (hdb : isDe db) : MFg l yX1_forget cX1_forget 1 none 0 0 [.ref db] K R I L anV meV (f_X1_forget db I L) := by
  refine mf_of (plainFor_of_name (by decide)) (Nat.le_of_ble_eq_true rfl) ?_
  intro G hc _ hK1 hR1 hn hq
  have hK := hK1.trans hK0
  have hR := hR1.trans hR0
  have hN : ∀ i, Nat.blt i 1 = true → i < gnL G := fun i h => hn ▸ Nat.blt_eq.mp h
  unfold f_X1_forget
  show WW G 0 [(0, .ref db)] [] I L _
  refine w_aload_n (q := 1) (i := 0) (j := 0) hc dX1_forget_0 rfl rfl rfl ?_
  refine w_iconst (q := 2) hc dX1_forget_1 ci_0 rfl ?_
  refine pf_X1_26 (q := 5) hc dX1_forget_2 (kd_0 hK hdb) bz_0 rfl (fun I_1 => ?_)
  exact w_return hc hq dX1_forget_5 rfl rfl
set_option maxRecDepth 100000 in
set_option maxHeartbeats 4000000 in
theorem wl_X1_takeMakers_18 {G : GT Mm} {rm : Nat} (db : Nat) (c1 : Nat) (I : MI) (hc : Cx G cX1_takeMakers yX1_takeMakers.cls none 1 21) (hq : RetQ G anV meV) (hK : gK G = lK rm) (hR : gR G = lR rm) (hn : gnL G = 3) (hdb : isDe db) (hc1 : isCh c1) : ∀ (n : Nat) (v2_3 : Int32) (L_4 : ML), WW G 18 [(0, .ref db), (1, .ref c1), (2, .int v2_3)] [] I L_4 (f_X1_takeMakers_18 db c1 I n v2_3 L_4) := by
  have hN : ∀ i, Nat.blt i 3 = true → i < gnL G := fun i h => hn ▸ Nat.blt_eq.mp h
  intro n
  induction n with
  | zero => intros; exact w_none _ _ _
  | succ n ih =>
    intros v2_3 L_4
    rw [f_X1_takeMakers_18]
    refine w_iload_n (q := 19) (i := 2) (j := 2) hc dX1_takeMakers_18 rfl rfl rfl ?_
    refine w_aload_n (q := 20) (i := 0) (j := 0) hc dX1_takeMakers_19 rfl rfl rfl ?_
    refine gf_X1_19 (q := 23) hc dX1_takeMakers_20 (kd_0 hK hdb) rfl ?_
    refine w_icmpge (q := 26) (tgt := 43) hc dX1_takeMakers_23 rfl rfl ?_ ?_
    · exact w_return hc hq dX1_takeMakers_43 rfl rfl
    · refine w_aload_n (q := 27) (i := 0) (j := 0) hc dX1_takeMakers_26 rfl rfl rfl ?_
      refine gf_X1_15 (q := 30) hc dX1_takeMakers_27 (kd_0 hK hdb) (rd_1 hR hdb) rfl ?_
      refine w_iload_n (q := 31) (i := 2) (j := 2) hc dX1_takeMakers_30 rfl rfl rfl ?_
      refine w_aload_n (q := 32) (i := 1) (j := 1) hc dX1_takeMakers_31 rfl rfl rfl ?_
      refine w_iload_n (q := 33) (i := 2) (j := 2) hc dX1_takeMakers_32 rfl rfl rfl ?_
      refine w_callV_Rl (q := 36) (st := [.int v2_3, .ref (db + 2)]) (args := [.int v2_3]) (p := c1) hc (m_X0_maker hK hR hc1) dX1_takeMakers_33 ml_X1_51 cf_X0_maker iv_X0_maker (kc_0 hK hc1) (C := RX0) (T := TX0) (N := 8) rfl rfl (Nat.lt_of_succ_le (Nat.le_of_ble_eq_true rfl)) rfl rfl (Nat.le_of_ble_eq_true rfl) ⟨Nat.le_of_ble_eq_true rfl, Nat.le_of_ble_eq_true rfl⟩ rfl (fun q_5 => ?_)
      refine w_last (q := 37) hc dX1_takeMakers_36 (kd_2 hK hdb) rfl (fun L_6 => ?_)
      refine w_iincB (q := 40) (i := 2) (j := 2) (lv' := fun v2_7 => [(2, .int v2_7), (0, .ref db), (1, .ref c1)]) hc dX1_takeMakers_37 rfl ci_1 (hN 2 rfl) (fun _ => rfl) rfl (fun v2_7 => ?_)
      refine w_goto (tgt := 18) hc dX1_takeMakers_40 rfl ?_
      refine w_sub [1, 2, 0] rfl ?_
      exact ih v2_7 L_6
set_option maxRecDepth 100000 in
set_option maxHeartbeats 4000000 in
theorem m_X1_takeMakers {l : Launch} {K : KT} {R : MR} {rm : Nat} {db : Nat} {c1 : Nat} {I : MI} {L : ML} (hK0 : K = lK rm) (hR0 : R = lR rm) (hdb : isDe db) (hc1 : isCh c1) : MFg l yX1_takeMakers cX1_takeMakers 3 none 1 21 [.ref db, .ref c1] K R I L anV meV (f_X1_takeMakers db c1 I L) := by
  refine mf_of (plainFor_of_name (by decide)) (Nat.le_of_ble_eq_true rfl) ?_
  intro G hc _ hK1 hR1 hn hq
  have hK := hK1.trans hK0
  have hR := hR1.trans hR0
  have hN : ∀ i, Nat.blt i 3 = true → i < gnL G := fun i h => hn ▸ Nat.blt_eq.mp h
  unfold f_X1_takeMakers
  show WW G 0 [(0, .ref db), (1, .ref c1)] [] I L _
  refine w_aload_n (q := 1) (i := 0) (j := 0) hc dX1_takeMakers_0 rfl rfl rfl ?_
  refine w_aload_n (q := 2) (i := 1) (j := 1) hc dX1_takeMakers_1 rfl rfl rfl ?_
  refine w_callV_Ri (q := 5) (st := [.ref db]) (args := []) (p := c1) hc (m_X0_countMakers hK hR hc1) dX1_takeMakers_2 ml_X1_42 cf_X0_countMakers iv_X0_countMakers (kc_0 hK hc1) (C := RX0) (T := TX0) (N := 8) rfl rfl (Nat.lt_of_succ_le (Nat.le_of_ble_eq_true rfl)) rfl rfl (Nat.le_of_ble_eq_true rfl) ⟨Nat.le_of_ble_eq_true rfl, Nat.le_of_ble_eq_true rfl⟩ rfl (fun q_1 => ?_)
  refine w_aload_n (q := 6) (i := 0) (j := 0) hc dX1_takeMakers_5 rfl rfl rfl ?_
  refine gf_X1_15 (q := 9) hc dX1_takeMakers_6 (kd_0 hK hdb) (rd_1 hR hdb) rfl ?_
  refine w_alenJ (q := 10) hc dX1_takeMakers_9 (kd_2 hK hdb) cn_16 rfl ?_
  refine w_min (q := 13) (st := [.ref db]) hc dX1_takeMakers_10 ml_X1_45 (Nat.le_of_ble_eq_true rfl) (Nat.le_of_ble_eq_true rfl) (Nat.le_of_ble_eq_true rfl) rfl ?_
  refine pf_X1_19 (q := 16) hc dX1_takeMakers_13 (kd_0 hK hdb) rfl (fun I_2 => ?_)
  refine w_iconst (q := 17) hc dX1_takeMakers_16 ci_0 rfl ?_
  refine w_istore_n (q := 18) (i := 2) (lv' := [(2, .int 0), (0, .ref db), (1, .ref c1)]) hc dX1_takeMakers_17 rfl (hN 2 rfl) rfl rfl ?_
  refine w_sub [1, 2, 0] rfl ?_
  exact wl_X1_takeMakers_18 db c1 I_2 hc hq hK hR hn hdb hc1 FU 0 L
set_option maxRecDepth 100000 in
set_option maxHeartbeats 4000000 in
theorem wl_X1_descend_44 {G : GT Mm} {rm : Nat} (db : Nat) (c1 : Nat) (c2 : Nat) (a3 : Bool) (v4_10 : Int32) (v5_11 : Int32) (v6_12 : Int32) (hc : Cx G cX1_descend yX1_descend.cls none 4 112) (hq : RetQ G anV meV) (hK : gK G = lK rm) (hR : gR G = lR rm) (hn : gnL G = 10) (hdb : isDe db) (hc1 : isCh c1) (hc2 : isCh c2) (k0 : MI → ML → Option Mm) (hk0 : ∀ (I_21 : MI) (L_22 : ML), WW G 98 [(0, .ref db), (1, .ref c1), (2, .ref c2), (3, .int (b2i a3)), (4, .int v4_10), (5, .int v5_11), (6, .int v6_12)] [] I_21 L_22 (k0 I_21 L_22)) : ∀ (n : Nat) (v7_13 : Int32) (I_14 : MI) (L_15 : ML), WW G 44 [(0, .ref db), (1, .ref c1), (2, .ref c2), (3, .int (b2i a3)), (4, .int v4_10), (5, .int v5_11), (6, .int v6_12), (7, .int v7_13)] [] I_14 L_15 (f_X1_descend_44 db c1 c2 a3 v4_10 v5_11 v6_12 k0 n v7_13 I_14 L_15) := by
  have hN : ∀ i, Nat.blt i 10 = true → i < gnL G := fun i h => hn ▸ Nat.blt_eq.mp h
  intro n
  induction n with
  | zero => intros; exact w_none _ _ _
  | succ n ih =>
    intros v7_13 I_14 L_15
    rw [f_X1_descend_44]
    refine w_iload (q := 46) (i := 7) (j := 7) hc dX1_descend_44 rfl rfl ?_
    refine w_iload (q := 48) (i := 5) (j := 5) hc dX1_descend_46 rfl rfl ?_
    refine w_icmpge (q := 51) (tgt := 98) hc dX1_descend_48 rfl rfl ?_ ?_
    · refine w_sub [0, 1, 2, 3, 4, 5, 6] rfl ?_
      exact hk0 I_14 L_15
    · refine w_iload_n (q := 52) (i := 3) (j := 3) hc dX1_descend_51 rfl rfl rfl ?_
      refine w_join (fun j71_61 : Int64 → Option Mm => ∀ (s0_17 : Int64), WW G 71 [(0, .ref db), (1, .ref c1), (2, .ref c2), (3, .int (b2i a3)), (4, .int v4_10), (5, .int v5_11), (6, .int v6_12), (7, .int v7_13)] [.long s0_17] I_14 L_15 (j71_61 s0_17)) ?_ ?_
      · intro s0_17
        refine w_lstore (q := 73) (i := 8) (lv' := [(8, .long s0_17), (0, .ref db), (1, .ref c1), (2, .ref c2), (3, .int (b2i a3)), (4, .int v4_10), (5, .int v5_11), (6, .int v6_12), (7, .int v7_13)]) hc dX1_descend_71 (hN 9 rfl) rfl rfl ?_
        refine w_aload_n (q := 74) (i := 2) (j := 3) hc dX1_descend_73 rfl rfl rfl ?_
        refine w_aload_n (q := 75) (i := 0) (j := 1) hc dX1_descend_74 rfl rfl rfl ?_
        refine gf_X1_15 (q := 78) hc dX1_descend_75 (kd_0 hK hdb) (rd_1 hR hdb) rfl ?_
        refine w_iload (q := 80) (i := 6) (j := 7) hc dX1_descend_78 rfl rfl ?_
        refine w_lald (q := 81) hc dX1_descend_80 (kd_2 hK hdb) rfl ?_
        refine w_lload (q := 83) (i := 8) (j := 0) hc dX1_descend_81 rfl rfl ?_
        refine w_iload (q := 85) (i := 4) (j := 5) hc dX1_descend_83 rfl rfl ?_
        refine w_callS_Rl (q := 88) (st := [.ref c2]) (args := [.long (L_15 (db + 2) (ix v6_12)), .long s0_17, .int v4_10]) hc (m_X6_commutatorOf hK hR) dX1_descend_85 ml_X1_62 cf_X6_commutatorOf st_X6_commutatorOf rfl rfl (Nat.le_of_ble_eq_true rfl) ⟨Nat.le_of_ble_eq_true rfl, Nat.le_of_ble_eq_true rfl⟩ rfl (fun q_18 => ?_)
        refine w_callV_Wz (q := 91) (st := []) (args := [.long q_18]) (p := c2) hc (m_X0_grow hK hR hc2) dX1_descend_88 ml_X1_68 cf_X0_grow iv_X0_grow (kc_0 hK hc2) (C := RX0) (T := TX0) (N := 8) rfl rfl (Nat.lt_of_succ_le (Nat.le_of_ble_eq_true rfl)) rfl rfl (Nat.le_of_ble_eq_true rfl) ⟨Nat.le_of_ble_eq_true rfl, Nat.le_of_ble_eq_true rfl⟩ rfl (fun q_19 => ?_)
        refine w_pop_int (q := 92) hc dX1_descend_91  rfl ?_
        refine w_iincB (q := 95) (i := 7) (j := 8) (lv' := fun v7_20 => [(7, .int v7_20), (8, .long s0_17), (0, .ref db), (1, .ref c1), (2, .ref c2), (3, .int (b2i a3)), (4, .int v4_10), (5, .int v5_11), (6, .int v6_12)]) hc dX1_descend_92 rfl ci_1 (hN 7 rfl) (fun _ => rfl) rfl (fun v7_20 => ?_)
        refine w_goto (tgt := 44) hc dX1_descend_95 rfl ?_
        refine w_sub [2, 3, 4, 5, 6, 7, 8, 0] rfl ?_
        exact ih v7_20 q_19.2.1 q_19.2.2
      · intro j71_61 hj71_61
        refine w_ifeq (q := 55) (tgt := 64) hc dX1_descend_52 rfl rfl ?_ ?_
        · refine w_aload_n (q := 65) (i := 0) (j := 0) hc dX1_descend_64 rfl rfl rfl ?_
          refine gf_X1_15 (q := 68) hc dX1_descend_65 (kd_0 hK hdb) (rd_1 hR hdb) rfl ?_
          refine w_iload (q := 70) (i := 7) (j := 7) hc dX1_descend_68 rfl rfl ?_
          refine w_lald (q := 71) hc dX1_descend_70 (kd_2 hK hdb) rfl ?_
          exact hj71_61 (L_15 (db + 2) (ix v7_13))
        · refine w_aload_n (q := 56) (i := 1) (j := 1) hc dX1_descend_55 rfl rfl rfl ?_
          refine w_iload (q := 58) (i := 7) (j := 7) hc dX1_descend_56 rfl rfl ?_
          refine w_callV_Rl (q := 61) (st := []) (args := [.int v7_13]) (p := c1) hc (m_X0_maker hK hR hc1) dX1_descend_58 ml_X1_51 cf_X0_maker iv_X0_maker (kc_0 hK hc1) (C := RX0) (T := TX0) (N := 8) rfl rfl (Nat.lt_of_succ_le (Nat.le_of_ble_eq_true rfl)) rfl rfl (Nat.le_of_ble_eq_true rfl) ⟨Nat.le_of_ble_eq_true rfl, Nat.le_of_ble_eq_true rfl⟩ rfl (fun q_16 => ?_)
          refine w_goto (tgt := 71) hc dX1_descend_61 rfl ?_
          exact hj71_61 q_16
set_option maxRecDepth 100000 in
set_option maxHeartbeats 4000000 in
theorem wl_X1_descend_126 {G : GT Mm} {rm : Nat} (db : Nat) (c1 : Nat) (c2 : Nat) (a3 : Bool) (v4_32 : Int32) (v5_33 : Int32) (v6_34 : Int32) (hc : Cx G cX1_descend yX1_descend.cls none 4 112) (hq : RetQ G anV meV) (hK : gK G = lK rm) (hR : gR G = lR rm) (hn : gnL G = 10) (hdb : isDe db) (hc1 : isCh c1) (hc2 : isCh c2) (k0 : MI → ML → Option Mm) (hk0 : ∀ (I_44 : MI) (L_45 : ML), WW G 179 [(0, .ref db), (1, .ref c1), (2, .ref c2), (3, .int (b2i a3)), (4, .int v4_32), (5, .int v5_33), (6, .int v6_34)] [] I_44 L_45 (k0 I_44 L_45)) : ∀ (n : Nat) (v7_35 : Int32) (I_36 : MI) (L_37 : ML), WW G 126 [(0, .ref db), (1, .ref c1), (2, .ref c2), (3, .int (b2i a3)), (4, .int v4_32), (5, .int v5_33), (6, .int v6_34), (7, .int v7_35)] [] I_36 L_37 (f_X1_descend_126 db c1 c2 a3 v4_32 v5_33 v6_34 k0 n v7_35 I_36 L_37) := by
  have hN : ∀ i, Nat.blt i 10 = true → i < gnL G := fun i h => hn ▸ Nat.blt_eq.mp h
  intro n
  induction n with
  | zero => intros; exact w_none _ _ _
  | succ n ih =>
    intros v7_35 I_36 L_37
    rw [f_X1_descend_126]
    refine w_iload (q := 128) (i := 7) (j := 7) hc dX1_descend_126 rfl rfl ?_
    refine w_iload (q := 130) (i := 5) (j := 5) hc dX1_descend_128 rfl rfl ?_
    refine w_icmpge (q := 133) (tgt := 179) hc dX1_descend_130 rfl rfl ?_ ?_
    · refine w_sub [0, 1, 2, 3, 4, 5, 6] rfl ?_
      exact hk0 I_36 L_37
    · refine w_iload_n (q := 134) (i := 3) (j := 3) hc dX1_descend_133 rfl rfl rfl ?_
      refine w_join (fun j153_65 : Int64 → Option Mm => ∀ (s0_39 : Int64), WW G 153 [(0, .ref db), (1, .ref c1), (2, .ref c2), (3, .int (b2i a3)), (4, .int v4_32), (5, .int v5_33), (6, .int v6_34), (7, .int v7_35)] [.long s0_39] I_36 L_37 (j153_65 s0_39)) ?_ ?_
      · intro s0_39
        refine w_lstore (q := 155) (i := 8) (lv' := [(8, .long s0_39), (0, .ref db), (1, .ref c1), (2, .ref c2), (3, .int (b2i a3)), (4, .int v4_32), (5, .int v5_33), (6, .int v6_34), (7, .int v7_35)]) hc dX1_descend_153 (hN 9 rfl) rfl rfl ?_
        refine w_aload_n (q := 156) (i := 2) (j := 3) hc dX1_descend_155 rfl rfl rfl ?_
        refine w_aload_n (q := 157) (i := 2) (j := 3) hc dX1_descend_156 rfl rfl rfl ?_
        refine w_iload (q := 159) (i := 6) (j := 7) hc dX1_descend_157 rfl rfl ?_
        refine w_callV_Rl (q := 162) (st := [.ref c2]) (args := [.int v6_34]) (p := c2) hc (m_X0_maker hK hR hc2) dX1_descend_159 ml_X1_51 cf_X0_maker iv_X0_maker (kc_0 hK hc2) (C := RX0) (T := TX0) (N := 8) rfl rfl (Nat.lt_of_succ_le (Nat.le_of_ble_eq_true rfl)) rfl rfl (Nat.le_of_ble_eq_true rfl) ⟨Nat.le_of_ble_eq_true rfl, Nat.le_of_ble_eq_true rfl⟩ rfl (fun q_40 => ?_)
        refine w_lload (q := 164) (i := 8) (j := 0) hc dX1_descend_162 rfl rfl ?_
        refine w_iload (q := 166) (i := 4) (j := 5) hc dX1_descend_164 rfl rfl ?_
        refine w_callS_Rl (q := 169) (st := [.ref c2]) (args := [.long q_40, .long s0_39, .int v4_32]) hc (m_X6_conjugate hK hR) dX1_descend_166 ml_X1_72 cf_X6_conjugate st_X6_conjugate rfl rfl (Nat.le_of_ble_eq_true rfl) ⟨Nat.le_of_ble_eq_true rfl, Nat.le_of_ble_eq_true rfl⟩ rfl (fun q_41 => ?_)
        refine w_callV_Wz (q := 172) (st := []) (args := [.long q_41]) (p := c2) hc (m_X0_grow hK hR hc2) dX1_descend_169 ml_X1_68 cf_X0_grow iv_X0_grow (kc_0 hK hc2) (C := RX0) (T := TX0) (N := 8) rfl rfl (Nat.lt_of_succ_le (Nat.le_of_ble_eq_true rfl)) rfl rfl (Nat.le_of_ble_eq_true rfl) ⟨Nat.le_of_ble_eq_true rfl, Nat.le_of_ble_eq_true rfl⟩ rfl (fun q_42 => ?_)
        refine w_pop_int (q := 173) hc dX1_descend_172  rfl ?_
        refine w_iincB (q := 176) (i := 7) (j := 8) (lv' := fun v7_43 => [(7, .int v7_43), (8, .long s0_39), (0, .ref db), (1, .ref c1), (2, .ref c2), (3, .int (b2i a3)), (4, .int v4_32), (5, .int v5_33), (6, .int v6_34)]) hc dX1_descend_173 rfl ci_1 (hN 7 rfl) (fun _ => rfl) rfl (fun v7_43 => ?_)
        refine w_goto (tgt := 126) hc dX1_descend_176 rfl ?_
        refine w_sub [2, 3, 4, 5, 6, 7, 8, 0] rfl ?_
        exact ih v7_43 q_42.2.1 q_42.2.2
      · intro j153_65 hj153_65
        refine w_ifeq (q := 137) (tgt := 146) hc dX1_descend_134 rfl rfl ?_ ?_
        · refine w_aload_n (q := 147) (i := 0) (j := 0) hc dX1_descend_146 rfl rfl rfl ?_
          refine gf_X1_15 (q := 150) hc dX1_descend_147 (kd_0 hK hdb) (rd_1 hR hdb) rfl ?_
          refine w_iload (q := 152) (i := 7) (j := 7) hc dX1_descend_150 rfl rfl ?_
          refine w_lald (q := 153) hc dX1_descend_152 (kd_2 hK hdb) rfl ?_
          exact hj153_65 (L_37 (db + 2) (ix v7_35))
        · refine w_aload_n (q := 138) (i := 1) (j := 1) hc dX1_descend_137 rfl rfl rfl ?_
          refine w_iload (q := 140) (i := 7) (j := 7) hc dX1_descend_138 rfl rfl ?_
          refine w_callV_Rl (q := 143) (st := []) (args := [.int v7_35]) (p := c1) hc (m_X0_maker hK hR hc1) dX1_descend_140 ml_X1_51 cf_X0_maker iv_X0_maker (kc_0 hK hc1) (C := RX0) (T := TX0) (N := 8) rfl rfl (Nat.lt_of_succ_le (Nat.le_of_ble_eq_true rfl)) rfl rfl (Nat.le_of_ble_eq_true rfl) ⟨Nat.le_of_ble_eq_true rfl, Nat.le_of_ble_eq_true rfl⟩ rfl (fun q_38 => ?_)
          refine w_goto (tgt := 153) hc dX1_descend_143 rfl ?_
          exact hj153_65 q_38
set_option maxRecDepth 100000 in
set_option maxHeartbeats 4000000 in
theorem wl_X1_descend_107 {G : GT Mm} {rm : Nat} (db : Nat) (c1 : Nat) (c2 : Nat) (a3 : Bool) (v4_26 : Int32) (v5_27 : Int32) (hc : Cx G cX1_descend yX1_descend.cls none 4 112) (hq : RetQ G anV meV) (hK : gK G = lK rm) (hR : gR G = lR rm) (hn : gnL G = 10) (hdb : isDe db) (hc1 : isCh c1) (hc2 : isCh c2) : ∀ (n : Nat) (v6_28 : Int32) (I_29 : MI) (L_30 : ML), WW G 107 [(0, .ref db), (1, .ref c1), (2, .ref c2), (3, .int (b2i a3)), (4, .int v4_26), (5, .int v5_27), (6, .int v6_28)] [] I_29 L_30 (f_X1_descend_107 db c1 c2 a3 v4_26 v5_27 n v6_28 I_29 L_30) := by
  have hN : ∀ i, Nat.blt i 10 = true → i < gnL G := fun i h => hn ▸ Nat.blt_eq.mp h
  intro n
  induction n with
  | zero => intros; exact w_none _ _ _
  | succ n ih =>
    intros v6_28 I_29 L_30
    rw [f_X1_descend_107]
    refine w_iload (q := 109) (i := 6) (j := 6) hc dX1_descend_107 rfl rfl ?_
    refine w_aload_n (q := 110) (i := 2) (j := 2) hc dX1_descend_109 rfl rfl rfl ?_
    refine w_callV_Ri (q := 113) (st := [.int v6_28]) (args := []) (p := c2) hc (m_X0_countMakers hK hR hc2) dX1_descend_110 ml_X1_42 cf_X0_countMakers iv_X0_countMakers (kc_0 hK hc2) (C := RX0) (T := TX0) (N := 8) rfl rfl (Nat.lt_of_succ_le (Nat.le_of_ble_eq_true rfl)) rfl rfl (Nat.le_of_ble_eq_true rfl) ⟨Nat.le_of_ble_eq_true rfl, Nat.le_of_ble_eq_true rfl⟩ rfl (fun q_31 => ?_)
    refine w_icmpge (q := 116) (tgt := 185) hc dX1_descend_113 rfl rfl ?_ ?_
    · exact w_return hc hq dX1_descend_185 rfl rfl
    · refine w_iload (q := 118) (i := 6) (j := 6) hc dX1_descend_116 rfl rfl ?_
      refine w_bipush (q := 120) hc dX1_descend_118 cb_16 rfl ?_
      refine w_icmpge (q := 123) (tgt := 185) hc dX1_descend_120 rfl rfl ?_ ?_
      · exact w_return hc hq dX1_descend_185 rfl rfl
      · refine w_iconst (q := 124) hc dX1_descend_123 ci_0 rfl ?_
        refine w_istore (q := 126) (i := 7) (lv' := [(7, .int 0), (0, .ref db), (1, .ref c1), (2, .ref c2), (3, .int (b2i a3)), (4, .int v4_26), (5, .int v5_27), (6, .int v6_28)]) hc dX1_descend_124 (hN 7 rfl) rfl rfl ?_
        refine w_sub [1, 2, 3, 4, 5, 6, 7, 0] rfl ?_
        refine wl_X1_descend_126 db c1 c2 a3 v4_26 v5_27 v6_28 hc hq hK hR hn hdb hc1 hc2 _ ?_ FU 0 I_29 L_30
        intro I_44 L_45
        refine w_iincB (q := 182) (i := 6) (j := 6) (lv' := fun v6_46 => [(6, .int v6_46), (0, .ref db), (1, .ref c1), (2, .ref c2), (3, .int (b2i a3)), (4, .int v4_26), (5, .int v5_27)]) hc dX1_descend_179 rfl ci_1 (hN 6 rfl) (fun _ => rfl) rfl (fun v6_46 => ?_)
        refine w_goto (tgt := 107) hc dX1_descend_182 rfl ?_
        refine w_sub [1, 2, 3, 4, 5, 6, 0] rfl ?_
        exact ih v6_46 I_44 L_45
set_option maxRecDepth 100000 in
set_option maxHeartbeats 4000000 in
theorem wl_X1_descend_32 {G : GT Mm} {rm : Nat} (db : Nat) (c1 : Nat) (c2 : Nat) (a3 : Bool) (v4_5 : Int32) (v5_6 : Int32) (hc : Cx G cX1_descend yX1_descend.cls none 4 112) (hq : RetQ G anV meV) (hK : gK G = lK rm) (hR : gR G = lR rm) (hn : gnL G = 10) (hdb : isDe db) (hc1 : isCh c1) (hc2 : isCh c2) (k0 : MI → ML → Option Mm) (hk0 : ∀ (I_24 : MI) (L_25 : ML), WW G 104 [(0, .ref db), (1, .ref c1), (2, .ref c2), (3, .int (b2i a3)), (4, .int v4_5), (5, .int v5_6)] [] I_24 L_25 (k0 I_24 L_25)) : ∀ (n : Nat) (v6_7 : Int32) (I_8 : MI) (L_9 : ML), WW G 32 [(0, .ref db), (1, .ref c1), (2, .ref c2), (3, .int (b2i a3)), (4, .int v4_5), (5, .int v5_6), (6, .int v6_7)] [] I_8 L_9 (f_X1_descend_32 db c1 c2 a3 v4_5 v5_6 k0 n v6_7 I_8 L_9) := by
  have hN : ∀ i, Nat.blt i 10 = true → i < gnL G := fun i h => hn ▸ Nat.blt_eq.mp h
  intro n
  induction n with
  | zero => intros; exact w_none _ _ _
  | succ n ih =>
    intros v6_7 I_8 L_9
    rw [f_X1_descend_32]
    refine w_iload (q := 34) (i := 6) (j := 6) hc dX1_descend_32 rfl rfl ?_
    refine w_aload_n (q := 35) (i := 0) (j := 0) hc dX1_descend_34 rfl rfl rfl ?_
    refine gf_X1_19 (q := 38) hc dX1_descend_35 (kd_0 hK hdb) rfl ?_
    refine w_icmpge (q := 41) (tgt := 104) hc dX1_descend_38 rfl rfl ?_ ?_
    · refine w_sub [0, 1, 2, 3, 4, 5] rfl ?_
      exact hk0 I_8 L_9
    · refine w_iconst (q := 42) hc dX1_descend_41 ci_0 rfl ?_
      refine w_istore (q := 44) (i := 7) (lv' := [(7, .int 0), (0, .ref db), (1, .ref c1), (2, .ref c2), (3, .int (b2i a3)), (4, .int v4_5), (5, .int v5_6), (6, .int v6_7)]) hc dX1_descend_42 (hN 7 rfl) rfl rfl ?_
      refine w_sub [1, 2, 3, 4, 5, 6, 7, 0] rfl ?_
      refine wl_X1_descend_44 db c1 c2 a3 v4_5 v5_6 v6_7 hc hq hK hR hn hdb hc1 hc2 _ ?_ FU 0 I_8 L_9
      intro I_21 L_22
      refine w_iincB (q := 101) (i := 6) (j := 6) (lv' := fun v6_23 => [(6, .int v6_23), (0, .ref db), (1, .ref c1), (2, .ref c2), (3, .int (b2i a3)), (4, .int v4_5), (5, .int v5_6)]) hc dX1_descend_98 rfl ci_1 (hN 6 rfl) (fun _ => rfl) rfl (fun v6_23 => ?_)
      refine w_goto (tgt := 32) hc dX1_descend_101 rfl ?_
      refine w_sub [1, 2, 3, 4, 5, 6, 0] rfl ?_
      exact ih v6_23 I_21 L_22
set_option maxRecDepth 100000 in
set_option maxHeartbeats 4000000 in
theorem m_X1_descend {l : Launch} {K : KT} {R : MR} {rm : Nat} {db : Nat} {c1 : Nat} {c2 : Nat} {a3 : Bool} {I : MI} {L : ML} (hK0 : K = lK rm) (hR0 : R = lR rm) (hdb : isDe db) (hc1 : isCh c1) (hc2 : isCh c2) : MFg l yX1_descend cX1_descend 10 none 4 112 [.ref db, .ref c1, .ref c2, .int (b2i a3)] K R I L anV meV (f_X1_descend db c1 c2 a3 I L) := by
  refine mf_of (plainFor_of_name (by decide)) (Nat.le_of_ble_eq_true rfl) ?_
  intro G hc _ hK1 hR1 hn hq
  have hK := hK1.trans hK0
  have hR := hR1.trans hR0
  have hN : ∀ i, Nat.blt i 10 = true → i < gnL G := fun i h => hn ▸ Nat.blt_eq.mp h
  unfold f_X1_descend
  show WW G 0 [(0, .ref db), (1, .ref c1), (2, .ref c2), (3, .int (b2i a3))] [] I L _
  refine w_aload_n (q := 1) (i := 1) (j := 1) hc dX1_descend_0 rfl rfl rfl ?_
  refine gfN_X1_55 (q := 4) hc dX1_descend_1 (kc_0 hK hc1) rfl ?_
  refine w_istoreB (q := 6) (i := 4) (lv' := fun v4_1 => [(4, .int v4_1), (0, .ref db), (1, .ref c1), (2, .ref c2), (3, .int (b2i a3))]) hc dX1_descend_4 (hN 4 rfl) (fun _ => rfl) rfl (fun v4_1 => ?_)
  refine w_iload_n (q := 7) (i := 3) (j := 4) hc dX1_descend_6 rfl rfl rfl ?_
  refine w_join (fun j21_56 : Int32 → Option Mm => ∀ (s0_3 : Int32), WW G 21 [(0, .ref db), (1, .ref c1), (2, .ref c2), (3, .int (b2i a3)), (4, .int v4_1)] [.int s0_3] I L (j21_56 s0_3)) ?_ ?_
  · intro s0_3
    refine w_istore (q := 23) (i := 5) (lv' := [(5, .int s0_3), (0, .ref db), (1, .ref c1), (2, .ref c2), (3, .int (b2i a3)), (4, .int v4_1)]) hc dX1_descend_21 (hN 5 rfl) rfl rfl ?_
    refine w_aload_n (q := 24) (i := 2) (j := 3) hc dX1_descend_23 rfl rfl rfl ?_
    refine w_iload (q := 26) (i := 4) (j := 5) hc dX1_descend_24 rfl rfl ?_
    refine w_callV_Wv (q := 29) (st := []) (args := [.int v4_1]) (p := c2) hc (m_X0_start hK hR hc2) dX1_descend_26 ml_X1_58 cf_X0_start iv_X0_start (kc_0 hK hc2) (C := RX0) (T := TX0) (N := 8) rfl rfl (Nat.lt_of_succ_le (Nat.le_of_ble_eq_true rfl)) rfl rfl (Nat.le_of_ble_eq_true rfl) ⟨Nat.le_of_ble_eq_true rfl, Nat.le_of_ble_eq_true rfl⟩ rfl (fun q_4 => ?_)
    refine w_iconst (q := 30) hc dX1_descend_29 ci_0 rfl ?_
    refine w_istore (q := 32) (i := 6) (lv' := [(6, .int 0), (5, .int s0_3), (0, .ref db), (1, .ref c1), (2, .ref c2), (3, .int (b2i a3)), (4, .int v4_1)]) hc dX1_descend_30 (hN 6 rfl) rfl rfl ?_
    refine w_sub [2, 3, 4, 5, 6, 1, 0] rfl ?_
    refine wl_X1_descend_32 db c1 c2 a3 v4_1 s0_3 hc hq hK hR hn hdb hc1 hc2 _ ?_ FU 0 q_4.1 q_4.2
    intro I_24 L_25
    refine w_iconst (q := 105) hc dX1_descend_104 ci_0 rfl ?_
    refine w_istore (q := 107) (i := 6) (lv' := [(6, .int 0), (0, .ref db), (1, .ref c1), (2, .ref c2), (3, .int (b2i a3)), (4, .int v4_1), (5, .int s0_3)]) hc dX1_descend_105 (hN 6 rfl) rfl rfl ?_
    refine w_sub [1, 2, 3, 4, 5, 6, 0] rfl ?_
    exact wl_X1_descend_107 db c1 c2 a3 v4_1 s0_3 hc hq hK hR hn hdb hc1 hc2 FU 0 I_24 L_25
  · intro j21_56 hj21_56
    refine w_ifeq (q := 10) (tgt := 17) hc dX1_descend_7 rfl rfl ?_ ?_
    · refine w_aload_n (q := 18) (i := 0) (j := 1) hc dX1_descend_17 rfl rfl rfl ?_
      refine gf_X1_19 (q := 21) hc dX1_descend_18 (kd_0 hK hdb) rfl ?_
      refine w_sub [1, 2, 3, 4, 0] rfl ?_
      exact hj21_56 (I db 2)
    · refine w_aload_n (q := 11) (i := 1) (j := 2) hc dX1_descend_10 rfl rfl rfl ?_
      refine w_callV_Ri (q := 14) (st := []) (args := []) (p := c1) hc (m_X0_countMakers hK hR hc1) dX1_descend_11 ml_X1_42 cf_X0_countMakers iv_X0_countMakers (kc_0 hK hc1) (C := RX0) (T := TX0) (N := 8) rfl rfl (Nat.lt_of_succ_le (Nat.le_of_ble_eq_true rfl)) rfl rfl (Nat.le_of_ble_eq_true rfl) ⟨Nat.le_of_ble_eq_true rfl, Nat.le_of_ble_eq_true rfl⟩ rfl (fun q_2 => ?_)
      refine w_goto (tgt := 21) hc dX1_descend_14 rfl ?_
      refine w_sub [1, 2, 3, 4, 0] rfl ?_
      exact hj21_56 q_2
set_option maxRecDepth 100000 in
set_option maxHeartbeats 4000000 in
theorem wl_X1_know_31 {G : GT Mm} {rm : Nat} (db : Nat) (c1 : Nat) (c2 : Nat) (a3 : Bool) (hc : Cx G cX1_know yX1_know.cls none 5 141) (hq : RetQ G anV meV) (hK : gK G = lK rm) (hR : gR G = lR rm) (hn : gnL G = 5) (hdb : isDe db) (hc1 : isCh c1) (hc2 : isCh c2) (k0 : MI → ML → Option Mm) (hk0 : ∀ (I_16 : MI) (L_17 : ML), WW G 125 [(0, .ref db)] [] I_16 L_17 (k0 I_16 L_17)) : ∀ (n : Nat) (v4_5 : Int32) (I_6 : MI) (L_7 : ML), WW G 31 [(0, .ref db), (1, .ref c1), (2, .ref c2), (3, .int (b2i a3)), (4, .int v4_5)] [] I_6 L_7 (f_X1_know_31 db c1 c2 a3 k0 n v4_5 I_6 L_7) := by
  have hN : ∀ i, Nat.blt i 5 = true → i < gnL G := fun i h => hn ▸ Nat.blt_eq.mp h
  intro n
  induction n with
  | zero => intros; exact w_none _ _ _
  | succ n ih =>
    intros v4_5 I_6 L_7
    rw [f_X1_know_31]
    refine w_iload (q := 33) (i := 4) (j := 4) hc dX1_know_31 rfl rfl ?_
    refine w_ifeq (q := 36) (tgt := 125) hc dX1_know_33 rfl rfl ?_ ?_
    · refine w_sub [0] rfl ?_
      exact hk0 I_6 L_7
    · refine w_aload_n (q := 37) (i := 0) (j := 0) hc dX1_know_36 rfl rfl rfl ?_
      refine gf_X1_23 (q := 40) hc dX1_know_37 (kd_0 hK hdb) rfl ?_
      refine w_aload_n (q := 41) (i := 0) (j := 0) hc dX1_know_40 rfl rfl rfl ?_
      refine gf_X1_7 (q := 44) hc dX1_know_41 (kd_0 hK hdb) (rd_0 hR hdb) rfl ?_
      refine w_alenI (q := 45) hc dX1_know_44 (kd_1 hK hdb) cn_32 rfl ?_
      refine w_icmpge (q := 48) (tgt := 125) hc dX1_know_45 rfl rfl ?_ ?_
      · refine w_sub [0] rfl ?_
        exact hk0 I_6 L_7
      · refine w_aload_n (q := 49) (i := 0) (j := 0) hc dX1_know_48 rfl rfl rfl ?_
        refine w_aload_n (q := 50) (i := 1) (j := 1) hc dX1_know_49 rfl rfl rfl ?_
        refine w_aload_n (q := 51) (i := 2) (j := 2) hc dX1_know_50 rfl rfl rfl ?_
        refine w_iload_n (q := 52) (i := 3) (j := 3) hc dX1_know_51 rfl rfl rfl ?_
        refine w_callV_Wv (q := 55) (st := []) (args := [.ref c1, .ref c2, .int (b2i a3)]) (p := db) hc (m_X1_descend hK hR hdb hc1 hc2) dX1_know_52 ml_X1_38 cf_X1_descend iv_X1_descend (kd_0 hK hdb) (C := RX1) (T := TX1) (N := 5) rfl rfl (Nat.lt_of_succ_le (Nat.le_of_ble_eq_true rfl)) rfl rfl (Nat.le_of_ble_eq_true rfl) ⟨Nat.le_of_ble_eq_true rfl, Nat.le_of_ble_eq_true rfl⟩ rfl (fun q_8 => ?_)
        refine w_aload_n (q := 56) (i := 0) (j := 0) hc dX1_know_55 rfl rfl rfl ?_
        refine w_aload_n (q := 57) (i := 2) (j := 2) hc dX1_know_56 rfl rfl rfl ?_
        refine w_callV_Wv (q := 60) (st := []) (args := [.ref c2]) (p := db) hc (m_X1_takeMakers hK hR hdb hc2) dX1_know_57 ml_X1_30 cf_X1_takeMakers iv_X1_takeMakers (kd_0 hK hdb) (C := RX1) (T := TX1) (N := 5) rfl rfl (Nat.lt_of_succ_le (Nat.le_of_ble_eq_true rfl)) rfl rfl (Nat.le_of_ble_eq_true rfl) ⟨Nat.le_of_ble_eq_true rfl, Nat.le_of_ble_eq_true rfl⟩ rfl (fun q_9 => ?_)
        refine w_aload_n (q := 61) (i := 0) (j := 0) hc dX1_know_60 rfl rfl rfl ?_
        refine gf_X1_7 (q := 64) hc dX1_know_61 (kd_0 hK hdb) (rd_0 hR hdb) rfl ?_
        refine w_aload_n (q := 65) (i := 0) (j := 0) hc dX1_know_64 rfl rfl rfl ?_
        refine gf_X1_23 (q := 68) hc dX1_know_65 (kd_0 hK hdb) rfl ?_
        refine w_aload_n (q := 69) (i := 2) (j := 2) hc dX1_know_68 rfl rfl rfl ?_
        refine w_callV_Ri (q := 72) (st := [.int (q_9.1 db 3), .ref (db + 1)]) (args := []) (p := c2) hc (m_X0_size hK hR hc2) dX1_know_69 ml_X1_34 cf_X0_size iv_X0_size (kc_0 hK hc2) (C := RX0) (T := TX0) (N := 8) rfl rfl (Nat.lt_of_succ_le (Nat.le_of_ble_eq_true rfl)) rfl rfl (Nat.le_of_ble_eq_true rfl) ⟨Nat.le_of_ble_eq_true rfl, Nat.le_of_ble_eq_true rfl⟩ rfl (fun q_10 => ?_)
        refine w_iast (q := 73) hc dX1_know_72 (kd_1 hK hdb) rfl (fun I_11 => ?_)
        refine w_aload_n (q := 74) (i := 0) (j := 0) hc dX1_know_73 rfl rfl rfl ?_
        refine gf_X1_7 (q := 77) hc dX1_know_74 (kd_0 hK hdb) (rd_0 hR hdb) rfl ?_
        refine w_aload_n (q := 78) (i := 0) (j := 0) hc dX1_know_77 rfl rfl rfl ?_
        refine gf_X1_23 (q := 81) hc dX1_know_78 (kd_0 hK hdb) rfl ?_
        refine w_iald (q := 82) hc dX1_know_81 (kd_1 hK hdb) rfl ?_
        refine w_aload_n (q := 83) (i := 0) (j := 0) hc dX1_know_82 rfl rfl rfl ?_
        refine gf_X1_7 (q := 86) hc dX1_know_83 (kd_0 hK hdb) (rd_0 hR hdb) rfl ?_
        refine w_aload_n (q := 87) (i := 0) (j := 0) hc dX1_know_86 rfl rfl rfl ?_
        refine gf_X1_23 (q := 90) hc dX1_know_87 (kd_0 hK hdb) rfl ?_
        refine w_iconst (q := 91) hc dX1_know_90 ci_1 rfl ?_
        refine w_isub (q := 92) hc dX1_know_91  rfl ?_
        refine w_iald (q := 93) hc dX1_know_92 (kd_1 hK hdb) rfl ?_
        refine w_join (fun j101_68 : Bool → Option Mm => ∀ (s0_12 : Bool), WW G 101 [(0, .ref db), (1, .ref c1), (2, .ref c2), (3, .int (b2i a3))] [.int (b2i s0_12)] I_11 q_9.2 (j101_68 s0_12)) ?_ ?_
        · intro s0_12
          refine w_istoreB (q := 103) (i := 4) (lv' := fun v4_13 => [(4, .int v4_13), (0, .ref db), (1, .ref c1), (2, .ref c2), (3, .int (b2i a3))]) hc dX1_know_101 (hN 4 rfl) (fun _ => rfl) rfl (fun v4_13 => ?_)
          refine w_aload_n (q := 104) (i := 0) (j := 1) hc dX1_know_103 rfl rfl rfl ?_
          refine w_dup_ref (q := 105) hc dX1_know_104  rfl ?_
          refine gf_X1_23 (q := 108) hc dX1_know_105 (kd_0 hK hdb) rfl ?_
          refine w_iload (q := 110) (i := 4) (j := 0) hc dX1_know_108 rfl rfl ?_
          refine w_ifeq (q := 113) (tgt := 117) hc dX1_know_110 rfl rfl ?_ ?_
          · refine w_iconst (q := 118) hc dX1_know_117 ci_0 rfl ?_
            refine w_iadd (q := 119) hc dX1_know_118  rfl ?_
            refine pf_X1_23 (q := 122) hc dX1_know_119 (kd_0 hK hdb) rfl (fun I_14 => ?_)
            refine w_goto (tgt := 31) hc dX1_know_122 rfl ?_
            refine w_sub [1, 2, 3, 4, 0] rfl ?_
            exact ih v4_13 I_14 q_9.2
          · refine w_iconst (q := 114) hc dX1_know_113 ci_1 rfl ?_
            refine w_goto (tgt := 118) hc dX1_know_114 rfl ?_
            refine w_iadd (q := 119) hc dX1_know_118  rfl ?_
            refine pf_X1_23 (q := 122) hc dX1_know_119 (kd_0 hK hdb) rfl (fun I_15 => ?_)
            refine w_goto (tgt := 31) hc dX1_know_122 rfl ?_
            refine w_sub [1, 2, 3, 4, 0] rfl ?_
            exact ih v4_13 I_15 q_9.2
        · intro j101_68 hj101_68
          refine w_icmpge (q := 96) (tgt := 100) hc dX1_know_93 rfl rfl ?_ ?_
          · refine w_iconst (q := 101) hc dX1_know_100 ci_0 rfl ?_
            refine w_sub [0, 1, 2, 3] rfl ?_
            exact hj101_68 false
          · refine w_iconst (q := 97) hc dX1_know_96 ci_1 rfl ?_
            refine w_goto (tgt := 101) hc dX1_know_97 rfl ?_
            refine w_sub [0, 1, 2, 3] rfl ?_
            exact hj101_68 true
set_option maxRecDepth 100000 in
set_option maxHeartbeats 4000000 in
theorem m_X1_know {l : Launch} {K : KT} {R : MR} {rm : Nat} {db : Nat} {c1 : Nat} {c2 : Nat} {a3 : Bool} {I : MI} {L : ML} (hK0 : K = lK rm) (hR0 : R = lR rm) (hdb : isDe db) (hc1 : isCh c1) (hc2 : isCh c2) : MFg l yX1_know cX1_know 5 none 5 141 [.ref db, .ref c1, .ref c2, .int (b2i a3)] K R I L anV meV (f_X1_know db c1 c2 a3 I L) := by
  refine mf_of (plainFor_of_name (by decide)) (Nat.le_of_ble_eq_true rfl) ?_
  intro G hc _ hK1 hR1 hn hq
  have hK := hK1.trans hK0
  have hR := hR1.trans hR0
  have hN : ∀ i, Nat.blt i 5 = true → i < gnL G := fun i h => hn ▸ Nat.blt_eq.mp h
  unfold f_X1_know
  show WW G 0 [(0, .ref db), (1, .ref c1), (2, .ref c2), (3, .int (b2i a3))] [] I L _
  refine w_aload_n (q := 1) (i := 0) (j := 0) hc dX1_know_0 rfl rfl rfl ?_
  refine gf_X1_26 (q := 4) hc dX1_know_1 (kd_0 hK hdb) rfl ?_
  refine w_ifeq (q := 7) (tgt := 8) hc dX1_know_4 rfl rfl ?_ ?_
  · refine w_aload_n (q := 9) (i := 0) (j := 0) hc dX1_know_8 rfl rfl rfl ?_
    refine w_aload_n (q := 10) (i := 1) (j := 1) hc dX1_know_9 rfl rfl rfl ?_
    refine w_callV_Wv (q := 13) (st := []) (args := [.ref c1]) (p := db) hc (m_X1_takeMakers hK hR hdb hc1) dX1_know_10 ml_X1_30 cf_X1_takeMakers iv_X1_takeMakers (kd_0 hK hdb) (C := RX1) (T := TX1) (N := 5) rfl rfl (Nat.lt_of_succ_le (Nat.le_of_ble_eq_true rfl)) rfl rfl (Nat.le_of_ble_eq_true rfl) ⟨Nat.le_of_ble_eq_true rfl, Nat.le_of_ble_eq_true rfl⟩ rfl (fun q_1 => ?_)
    refine w_aload_n (q := 14) (i := 0) (j := 0) hc dX1_know_13 rfl rfl rfl ?_
    refine gf_X1_7 (q := 17) hc dX1_know_14 (kd_0 hK hdb) (rd_0 hR hdb) rfl ?_
    refine w_iconst (q := 18) hc dX1_know_17 ci_0 rfl ?_
    refine w_aload_n (q := 19) (i := 1) (j := 1) hc dX1_know_18 rfl rfl rfl ?_
    refine w_callV_Ri (q := 22) (st := [.int 0, .ref (db + 1)]) (args := []) (p := c1) hc (m_X0_size hK hR hc1) dX1_know_19 ml_X1_34 cf_X0_size iv_X0_size (kc_0 hK hc1) (C := RX0) (T := TX0) (N := 8) rfl rfl (Nat.lt_of_succ_le (Nat.le_of_ble_eq_true rfl)) rfl rfl (Nat.le_of_ble_eq_true rfl) ⟨Nat.le_of_ble_eq_true rfl, Nat.le_of_ble_eq_true rfl⟩ rfl (fun q_2 => ?_)
    refine w_iast (q := 23) hc dX1_know_22 (kd_1 hK hdb) rfl (fun I_3 => ?_)
    refine w_aload_n (q := 24) (i := 0) (j := 0) hc dX1_know_23 rfl rfl rfl ?_
    refine w_iconst (q := 25) hc dX1_know_24 ci_1 rfl ?_
    refine pf_X1_23 (q := 28) hc dX1_know_25 (kd_0 hK hdb) rfl (fun I_4 => ?_)
    refine w_iconst (q := 29) hc dX1_know_28 ci_1 rfl ?_
    refine w_istore (q := 31) (i := 4) (lv' := [(4, .int 1), (0, .ref db), (1, .ref c1), (2, .ref c2), (3, .int (b2i a3))]) hc dX1_know_29 (hN 4 rfl) rfl rfl ?_
    refine w_sub [1, 2, 3, 4, 0] rfl ?_
    refine wl_X1_know_31 db c1 c2 a3 hc hq hK hR hn hdb hc1 hc2 _ ?_ FU 1 I_4 q_1.2
    intro I_16 L_17
    refine w_aload_n (q := 126) (i := 0) (j := 0) hc dX1_know_125 rfl rfl rfl ?_
    refine w_iconst (q := 127) hc dX1_know_126 ci_1 rfl ?_
    refine pf_X1_26 (q := 130) hc dX1_know_127 (kd_0 hK hdb) bz_1 rfl (fun I_18 => ?_)
    exact w_return hc hq dX1_know_130 rfl rfl
  · exact w_return hc hq dX1_know_7 rfl rfl
set_option maxRecDepth 100000 in
set_option maxHeartbeats 4000000 in
theorem m_X1_sizeAt {l : Launch} {K : KT} {R : MR} {rm : Nat} {db : Nat} {a1 : Int32} {I : MI} {L : ML} (hK0 : K = lK rm) (hR0 : R = lR rm) (hdb : isDe db) : MFg l yX1_sizeAt cX1_sizeAt 2 (some .int) 0 0 [.ref db, .int a1] K R I L anI (meR I L) (f_X1_sizeAt db a1 I L) := by
  refine mf_of (plainFor_of_name (by decide)) (Nat.le_of_ble_eq_true rfl) ?_
  intro G hc _ hK1 hR1 hn hq
  have hK := hK1.trans hK0
  have hR := hR1.trans hR0
  have hN : ∀ i, Nat.blt i 2 = true → i < gnL G := fun i h => hn ▸ Nat.blt_eq.mp h
  unfold f_X1_sizeAt
  show WW G 0 [(0, .ref db), (1, .int a1)] [] I L _
  refine w_iload_n (q := 1) (i := 1) (j := 1) hc dX1_sizeAt_0 rfl rfl rfl ?_
  refine w_iflt (q := 4) (tgt := 21) hc dX1_sizeAt_1 rfl rfl ?_ ?_
  · refine w_iconst (q := 22) hc dX1_sizeAt_21 ci_0 rfl ?_
    exact w_ireturn (v := 0) hc hq dX1_sizeAt_22 rfl rfl rfl
  · refine w_iload_n (q := 5) (i := 1) (j := 1) hc dX1_sizeAt_4 rfl rfl rfl ?_
    refine w_aload_n (q := 6) (i := 0) (j := 0) hc dX1_sizeAt_5 rfl rfl rfl ?_
    refine gf_X1_23 (q := 9) hc dX1_sizeAt_6 (kd_0 hK hdb) rfl ?_
    refine w_icmpge (q := 12) (tgt := 21) hc dX1_sizeAt_9 rfl rfl ?_ ?_
    · refine w_iconst (q := 22) hc dX1_sizeAt_21 ci_0 rfl ?_
      exact w_ireturn (v := 0) hc hq dX1_sizeAt_22 rfl rfl rfl
    · refine w_aload_n (q := 13) (i := 0) (j := 0) hc dX1_sizeAt_12 rfl rfl rfl ?_
      refine gf_X1_7 (q := 16) hc dX1_sizeAt_13 (kd_0 hK hdb) (rd_0 hR hdb) rfl ?_
      refine w_iload_n (q := 17) (i := 1) (j := 1) hc dX1_sizeAt_16 rfl rfl rfl ?_
      refine w_iald (q := 18) hc dX1_sizeAt_17 (kd_1 hK hdb) rfl ?_
      refine w_goto (tgt := 22) hc dX1_sizeAt_18 rfl ?_
      exact w_ireturn (v := (I (db + 1) (ix a1))) hc hq dX1_sizeAt_22 rfl rfl rfl
set_option maxRecDepth 100000 in
set_option maxHeartbeats 4000000 in
theorem m_X1_endsAtHome {l : Launch} {K : KT} {R : MR} {rm : Nat} {db : Nat} {I : MI} {L : ML} (hK0 : K = lK rm) (hR0 : R = lR rm) (hdb : isDe db) : MFg l yX1_endsAtHome cX1_endsAtHome 1 (some .boolean) 1 21 [.ref db] K R I L anZ (meR I L) (f_X1_endsAtHome db I L) := by
  refine mf_of (plainFor_of_name (by decide)) (Nat.le_of_ble_eq_true rfl) ?_
  intro G hc _ hK1 hR1 hn hq
  have hK := hK1.trans hK0
  have hR := hR1.trans hR0
  have hN : ∀ i, Nat.blt i 1 = true → i < gnL G := fun i h => hn ▸ Nat.blt_eq.mp h
  unfold f_X1_endsAtHome
  show WW G 0 [(0, .ref db)] [] I L _
  refine w_aload_n (q := 1) (i := 0) (j := 0) hc dX1_endsAtHome_0 rfl rfl rfl ?_
  refine w_aload_n (q := 2) (i := 0) (j := 0) hc dX1_endsAtHome_1 rfl rfl rfl ?_
  refine gf_X1_23 (q := 5) hc dX1_endsAtHome_2 (kd_0 hK hdb) rfl ?_
  refine w_iconst (q := 6) hc dX1_endsAtHome_5 ci_1 rfl ?_
  refine w_isub (q := 7) hc dX1_endsAtHome_6  rfl ?_
  refine w_callV_Ri (q := 10) (st := []) (args := [.int ((I db 3) - 1)]) (p := db) hc (m_X1_sizeAt hK hR hdb) dX1_endsAtHome_7 ml_X1_75 cf_X1_sizeAt iv_X1_sizeAt (kd_0 hK hdb) (C := RX1) (T := TX1) (N := 5) rfl rfl (Nat.lt_of_succ_le (Nat.le_of_ble_eq_true rfl)) rfl rfl (Nat.le_of_ble_eq_true rfl) ⟨Nat.le_of_ble_eq_true rfl, Nat.le_of_ble_eq_true rfl⟩ rfl (fun q_1 => ?_)
  refine w_iconst (q := 11) hc dX1_endsAtHome_10 ci_1 rfl ?_
  refine w_icmpne (q := 14) (tgt := 18) hc dX1_endsAtHome_11 rfl rfl ?_ ?_
  · refine w_iconst (q := 15) hc dX1_endsAtHome_14 ci_1 rfl ?_
    refine w_goto (tgt := 19) hc dX1_endsAtHome_15 rfl ?_
    exact w_ireturn (v := b2i true) hc hq dX1_endsAtHome_19 (nar_b2i true) rfl rfl
  · refine w_iconst (q := 19) hc dX1_endsAtHome_18 ci_0 rfl ?_
    exact w_ireturn (v := b2i false) hc hq dX1_endsAtHome_19 (nar_b2i false) rfl rfl
set_option maxRecDepth 100000 in
set_option maxHeartbeats 4000000 in
theorem m_X3_forget {l : Launch} {K : KT} {R : MR} {rm : Nat} {I : MI} {L : ML} (hK0 : K = lK rm) (hR0 : R = lR rm) : MFg l yX3_forget cX3_forget 1 none 0 0 [.ref 37] K R I L anV meV (f_X3_forget I L) := by
  refine mf_of (plainFor_of_name (by decide)) (Nat.le_of_ble_eq_true rfl) ?_
  intro G hc _ hK1 hR1 hn hq
  have hK := hK1.trans hK0
  have hR := hR1.trans hR0
  have hN : ∀ i, Nat.blt i 1 = true → i < gnL G := fun i h => hn ▸ Nat.blt_eq.mp h
  unfold f_X3_forget
  show WW G 0 [(0, .ref 37)] [] I L _
  refine w_aload_n (q := 1) (i := 0) (j := 0) hc dX3_forget_0 rfl rfl rfl ?_
  refine w_iconst (q := 2) hc dX3_forget_1 ci_0 rfl ?_
  refine pf_X3_9 (q := 5) hc dX3_forget_2 (k_37 hK) rfl (fun I_1 => ?_)
  exact w_return hc hq dX3_forget_5 rfl rfl
set_option maxRecDepth 100000 in
set_option maxHeartbeats 4000000 in
theorem m_X3_loseOldest {l : Launch} {K : KT} {R : MR} {rm : Nat} {I : MI} {L : ML} (hK0 : K = lK rm) (hR0 : R = lR rm) : MFg l yX3_loseOldest cX3_loseOldest 1 none 1 60 [.ref 37] K R I L anV meV (f_X3_loseOldest I L) := by
  refine mf_of (plainFor_of_name (by decide)) (Nat.le_of_ble_eq_true rfl) ?_
  intro G hc _ hK1 hR1 hn hq
  have hK := hK1.trans hK0
  have hR := hR1.trans hR0
  have hN : ∀ i, Nat.blt i 1 = true → i < gnL G := fun i h => hn ▸ Nat.blt_eq.mp h
  unfold f_X3_loseOldest
  show WW G 0 [(0, .ref 37)] [] I L _
  refine w_aload_n (q := 1) (i := 0) (j := 0) hc dX3_loseOldest_0 rfl rfl rfl ?_
  refine gf_X3_26 (q := 4) hc dX3_loseOldest_1 (k_37 hK) (r_37_4 hR) rfl ?_
  refine w_iconst (q := 5) hc dX3_loseOldest_4 ci_1 rfl ?_
  refine w_aload_n (q := 6) (i := 0) (j := 0) hc dX3_loseOldest_5 rfl rfl rfl ?_
  refine gf_X3_26 (q := 9) hc dX3_loseOldest_6 (k_37 hK) (r_37_4 hR) rfl ?_
  refine w_iconst (q := 10) hc dX3_loseOldest_9 ci_0 rfl ?_
  refine w_bipush (q := 12) hc dX3_loseOldest_10 cb_11 rfl ?_
  refine w_acopyJ (q := 15) hc dX3_loseOldest_12 ml_X3_39 (k_39 hK) (k_39 hK) (Nat.le_of_ble_eq_true rfl) (Nat.le_of_ble_eq_true rfl) rfl (fun L_1 => ?_)
  refine w_aload_n (q := 16) (i := 0) (j := 0) hc dX3_loseOldest_15 rfl rfl rfl ?_
  refine gf_X3_29 (q := 19) hc dX3_loseOldest_16 (k_37 hK) (r_37_5 hR) rfl ?_
  refine w_iconst (q := 20) hc dX3_loseOldest_19 ci_1 rfl ?_
  refine w_aload_n (q := 21) (i := 0) (j := 0) hc dX3_loseOldest_20 rfl rfl rfl ?_
  refine gf_X3_29 (q := 24) hc dX3_loseOldest_21 (k_37 hK) (r_37_5 hR) rfl ?_
  refine w_iconst (q := 25) hc dX3_loseOldest_24 ci_0 rfl ?_
  refine w_bipush (q := 27) hc dX3_loseOldest_25 cb_11 rfl ?_
  refine w_acopyI (q := 30) hc dX3_loseOldest_27 ml_X3_39 (k_40 hK) (k_40 hK) (Nat.le_of_ble_eq_true rfl) (Nat.le_of_ble_eq_true rfl) rfl (fun I_2 => ?_)
  refine w_aload_n (q := 31) (i := 0) (j := 0) hc dX3_loseOldest_30 rfl rfl rfl ?_
  refine gf_X3_33 (q := 34) hc dX3_loseOldest_31 (k_37 hK) (r_37_6 hR) rfl ?_
  refine w_bipush (q := 36) hc dX3_loseOldest_34 cb_6 rfl ?_
  refine w_aload_n (q := 37) (i := 0) (j := 0) hc dX3_loseOldest_36 rfl rfl rfl ?_
  refine gf_X3_33 (q := 40) hc dX3_loseOldest_37 (k_37 hK) (r_37_6 hR) rfl ?_
  refine w_iconst (q := 41) hc dX3_loseOldest_40 ci_0 rfl ?_
  refine w_bipush (q := 43) hc dX3_loseOldest_41 cb_66 rfl ?_
  refine w_acopyJ (q := 46) hc dX3_loseOldest_43 ml_X3_39 (k_41 hK) (k_41 hK) (Nat.le_of_ble_eq_true rfl) (Nat.le_of_ble_eq_true rfl) rfl (fun L_3 => ?_)
  refine w_aload_n (q := 47) (i := 0) (j := 0) hc dX3_loseOldest_46 rfl rfl rfl ?_
  refine w_bipush (q := 49) hc dX3_loseOldest_47 cb_11 rfl ?_
  refine pf_X3_9 (q := 52) hc dX3_loseOldest_49 (k_37 hK) rfl (fun I_4 => ?_)
  exact w_return hc hq dX3_loseOldest_52 rfl rfl
set_option maxRecDepth 100000 in
set_option maxHeartbeats 4000000 in
theorem wl_X3_keep_37 {G : GT Mm} {rm : Nat} (a3 : Nat) (I : MI) (hc : Cx G cX3_keep yX3_keep.cls none 2 80) (hq : RetQ G anV meV) (hK : gK G = lK rm) (hR : gR G = lR rm) (hn : gnL G = 6) (ha3 : (lK rm)[a3]? = some (11, 6)) (k0 : ML → Option Mm) (hk0 : ∀ (L_10 : ML), WW G 76 [(0, .ref 37)] [] I L_10 (k0 L_10)) : ∀ (n : Nat) (v5_6 : Int32) (L_7 : ML), WW G 37 [(0, .ref 37), (3, .ref a3), (5, .int v5_6)] [] I L_7 (f_X3_keep_37 a3 I k0 n v5_6 L_7) := by
  have hN : ∀ i, Nat.blt i 6 = true → i < gnL G := fun i h => hn ▸ Nat.blt_eq.mp h
  intro n
  induction n with
  | zero => intros; exact w_none _ _ _
  | succ n ih =>
    intros v5_6 L_7
    rw [f_X3_keep_37]
    refine w_iload (q := 39) (i := 5) (j := 2) hc dX3_keep_37 rfl rfl ?_
    refine w_bipush (q := 41) hc dX3_keep_39 cb_6 rfl ?_
    refine w_icmpge (q := 44) (tgt := 76) hc dX3_keep_41 rfl rfl ?_ ?_
    · refine w_sub [0] rfl ?_
      exact hk0 L_7
    · refine w_iload (q := 46) (i := 5) (j := 2) hc dX3_keep_44 rfl rfl ?_
      refine w_aload_n (q := 47) (i := 3) (j := 1) hc dX3_keep_46 rfl rfl rfl ?_
      refine w_alenJ (q := 48) hc dX3_keep_47 (kA hK ha3) cn_6 rfl ?_
      refine w_icmpge (q := 51) (tgt := 76) hc dX3_keep_48 rfl rfl ?_ ?_
      · refine w_sub [0] rfl ?_
        exact hk0 L_7
      · refine w_aload_n (q := 52) (i := 0) (j := 0) hc dX3_keep_51 rfl rfl rfl ?_
        refine gf_X3_33 (q := 55) hc dX3_keep_52 (k_37 hK) (r_37_6 hR) rfl ?_
        refine w_aload_n (q := 56) (i := 0) (j := 0) hc dX3_keep_55 rfl rfl rfl ?_
        refine gf_X3_9 (q := 59) hc dX3_keep_56 (k_37 hK) rfl ?_
        refine w_bipush (q := 61) hc dX3_keep_59 cb_6 rfl ?_
        refine w_imul (q := 62) hc dX3_keep_61  rfl ?_
        refine w_iload (q := 64) (i := 5) (j := 2) hc dX3_keep_62 rfl rfl ?_
        refine w_iadd (q := 65) hc dX3_keep_64  rfl ?_
        refine w_aload_n (q := 66) (i := 3) (j := 1) hc dX3_keep_65 rfl rfl rfl ?_
        refine w_iload (q := 68) (i := 5) (j := 2) hc dX3_keep_66 rfl rfl ?_
        refine w_lald (q := 69) hc dX3_keep_68 (kA hK ha3) rfl ?_
        refine w_last (q := 70) hc dX3_keep_69 (k_41 hK) rfl (fun L_8 => ?_)
        refine w_iincB (q := 73) (i := 5) (j := 2) (lv' := fun v5_9 => [(5, .int v5_9), (0, .ref 37), (3, .ref a3)]) hc dX3_keep_70 rfl ci_1 (hN 5 rfl) (fun _ => rfl) rfl (fun v5_9 => ?_)
        refine w_goto (tgt := 37) hc dX3_keep_73 rfl ?_
        refine w_sub [1, 2, 0] rfl ?_
        exact ih v5_9 L_8
set_option maxRecDepth 100000 in
set_option maxHeartbeats 4000000 in
theorem m_X3_keep {l : Launch} {K : KT} {R : MR} {rm : Nat} {a1 : Int64} {a3 : Nat} {a4 : Int32} {I : MI} {L : ML} (hK0 : K = lK rm) (hR0 : R = lR rm) (ha3 : (lK rm)[a3]? = some (11, 6)) : MFg l yX3_keep cX3_keep 6 none 2 80 [.ref 37, .long a1, .ref a3, .int a4] K R I L anV meV (f_X3_keep a1 a3 a4 I L) := by
  refine mf_of (plainFor_of_name (by decide)) (Nat.le_of_ble_eq_true rfl) ?_
  intro G hc _ hK1 hR1 hn hq
  have hK := hK1.trans hK0
  have hR := hR1.trans hR0
  have hN : ∀ i, Nat.blt i 6 = true → i < gnL G := fun i h => hn ▸ Nat.blt_eq.mp h
  unfold f_X3_keep
  show WW G 0 [(0, .ref 37), (1, .long a1), (3, .ref a3), (4, .int a4)] [] I L _
  refine w_aload_n (q := 1) (i := 0) (j := 0) hc dX3_keep_0 rfl rfl rfl ?_
  refine gf_X3_9 (q := 4) hc dX3_keep_1 (k_37 hK) rfl ?_
  refine w_bipush (q := 6) hc dX3_keep_4 cb_12 rfl ?_
  refine w_join (fun j13_69 : MI → ML → Option Mm => ∀ (I_2 : MI) (L_3 : ML), WW G 13 [(0, .ref 37), (1, .long a1), (3, .ref a3), (4, .int a4)] [] I_2 L_3 (j13_69 I_2 L_3)) ?_ ?_
  · intro I_2 L_3
    refine w_aload_n (q := 14) (i := 0) (j := 0) hc dX3_keep_13 rfl rfl rfl ?_
    refine gf_X3_26 (q := 17) hc dX3_keep_14 (k_37 hK) (r_37_4 hR) rfl ?_
    refine w_aload_n (q := 18) (i := 0) (j := 0) hc dX3_keep_17 rfl rfl rfl ?_
    refine gf_X3_9 (q := 21) hc dX3_keep_18 (k_37 hK) rfl ?_
    refine w_lload_n (q := 22) (i := 1) (j := 1) hc dX3_keep_21 rfl rfl rfl ?_
    refine w_last (q := 23) hc dX3_keep_22 (k_39 hK) rfl (fun L_4 => ?_)
    refine w_aload_n (q := 24) (i := 0) (j := 0) hc dX3_keep_23 rfl rfl rfl ?_
    refine gf_X3_29 (q := 27) hc dX3_keep_24 (k_37 hK) (r_37_5 hR) rfl ?_
    refine w_aload_n (q := 28) (i := 0) (j := 0) hc dX3_keep_27 rfl rfl rfl ?_
    refine gf_X3_9 (q := 31) hc dX3_keep_28 (k_37 hK) rfl ?_
    refine w_iload (q := 33) (i := 4) (j := 3) hc dX3_keep_31 rfl rfl ?_
    refine w_iast (q := 34) hc dX3_keep_33 (k_40 hK) rfl (fun I_5 => ?_)
    refine w_iconst (q := 35) hc dX3_keep_34 ci_0 rfl ?_
    refine w_istore (q := 37) (i := 5) (lv' := [(5, .int 0), (0, .ref 37), (1, .long a1), (3, .ref a3), (4, .int a4)]) hc dX3_keep_35 (hN 5 rfl) rfl rfl ?_
    refine w_sub [1, 3, 0] rfl ?_
    refine wl_X3_keep_37 a3 I_5 hc hq hK hR hn ha3 _ ?_ FU 0 L_4
    intro L_10
    refine w_aload_n (q := 77) (i := 0) (j := 0) hc dX3_keep_76 rfl rfl rfl ?_
    refine w_dup_ref (q := 78) hc dX3_keep_77  rfl ?_
    refine gf_X3_9 (q := 81) hc dX3_keep_78 (k_37 hK) rfl ?_
    refine w_iconst (q := 82) hc dX3_keep_81 ci_1 rfl ?_
    refine w_iadd (q := 83) hc dX3_keep_82  rfl ?_
    refine pf_X3_9 (q := 86) hc dX3_keep_83 (k_37 hK) rfl (fun I_11 => ?_)
    exact w_return hc hq dX3_keep_86 rfl rfl
  · intro j13_69 hj13_69
    refine w_icmplt (q := 9) (tgt := 13) hc dX3_keep_6 rfl rfl ?_ ?_
    · exact hj13_69 I L
    · refine w_aload_n (q := 10) (i := 0) (j := 0) hc dX3_keep_9 rfl rfl rfl ?_
      refine w_callV_Wv (q := 13) (st := []) (args := []) (p := 37) hc (m_X3_loseOldest hK hR) dX3_keep_10 ml_X3_36 cf_X3_loseOldest iv_X3_loseOldest (k_37 hK) (C := RX3) (T := TX3) (N := 7) rfl rfl (Nat.lt_of_succ_le (Nat.le_of_ble_eq_true rfl)) rfl rfl (Nat.le_of_ble_eq_true rfl) ⟨Nat.le_of_ble_eq_true rfl, Nat.le_of_ble_eq_true rfl⟩ rfl (fun q_1 => ?_)
      exact hj13_69 q_1.1 q_1.2
set_option maxRecDepth 100000 in
set_option maxHeartbeats 4000000 in
theorem wl_X3_goBack_46 {G : GT Mm} {rm : Nat} (I : MI) (hc : Cx G cX3_goBack yX3_goBack.cls none 0 0) (hq : RetQ G anV meV) (hK : gK G = lK rm) (hR : gR G = lR rm) (hn : gnL G = 2) : ∀ (n : Nat) (v1_4 : Int32) (L_5 : ML), WW G 46 [(0, .ref 37), (1, .int v1_4)] [] I L_5 (f_X3_goBack_46 I n v1_4 L_5) := by
  have hN : ∀ i, Nat.blt i 2 = true → i < gnL G := fun i h => hn ▸ Nat.blt_eq.mp h
  intro n
  induction n with
  | zero => intros; exact w_none _ _ _
  | succ n ih =>
    intros v1_4 L_5
    rw [f_X3_goBack_46]
    refine w_iload_n (q := 47) (i := 1) (j := 1) hc dX3_goBack_46 rfl rfl rfl ?_
    refine w_bipush (q := 49) hc dX3_goBack_47 cb_6 rfl ?_
    refine w_icmpge (q := 52) (tgt := 78) hc dX3_goBack_49 rfl rfl ?_ ?_
    · exact w_return hc hq dX3_goBack_78 rfl rfl
    · refine w_aload_n (q := 53) (i := 0) (j := 0) hc dX3_goBack_52 rfl rfl rfl ?_
      refine gf_X3_22 (q := 56) hc dX3_goBack_53 (k_37 hK) (r_37_3 hR) rfl ?_
      refine w_iload_n (q := 57) (i := 1) (j := 1) hc dX3_goBack_56 rfl rfl rfl ?_
      refine w_aload_n (q := 58) (i := 0) (j := 0) hc dX3_goBack_57 rfl rfl rfl ?_
      refine gf_X3_33 (q := 61) hc dX3_goBack_58 (k_37 hK) (r_37_6 hR) rfl ?_
      refine w_aload_n (q := 62) (i := 0) (j := 0) hc dX3_goBack_61 rfl rfl rfl ?_
      refine gf_X3_9 (q := 65) hc dX3_goBack_62 (k_37 hK) rfl ?_
      refine w_bipush (q := 67) hc dX3_goBack_65 cb_6 rfl ?_
      refine w_imul (q := 68) hc dX3_goBack_67  rfl ?_
      refine w_iload_n (q := 69) (i := 1) (j := 1) hc dX3_goBack_68 rfl rfl rfl ?_
      refine w_iadd (q := 70) hc dX3_goBack_69  rfl ?_
      refine w_lald (q := 71) hc dX3_goBack_70 (k_41 hK) rfl ?_
      refine w_last (q := 72) hc dX3_goBack_71 (k_38 hK) rfl (fun L_6 => ?_)
      refine w_iincB (q := 75) (i := 1) (j := 1) (lv' := fun v1_7 => [(1, .int v1_7), (0, .ref 37)]) hc dX3_goBack_72 rfl ci_1 (hN 1 rfl) (fun _ => rfl) rfl (fun v1_7 => ?_)
      refine w_goto (tgt := 46) hc dX3_goBack_75 rfl ?_
      refine w_sub [1, 0] rfl ?_
      exact ih v1_7 L_6
set_option maxRecDepth 100000 in
set_option maxHeartbeats 4000000 in
theorem m_X3_goBack {l : Launch} {K : KT} {R : MR} {rm : Nat} {I : MI} {L : ML} (hK0 : K = lK rm) (hR0 : R = lR rm) : MFg l yX3_goBack cX3_goBack 2 none 0 0 [.ref 37] K R I L anV meV (f_X3_goBack I L) := by
  refine mf_of (plainFor_of_name (by decide)) (Nat.le_of_ble_eq_true rfl) ?_
  intro G hc _ hK1 hR1 hn hq
  have hK := hK1.trans hK0
  have hR := hR1.trans hR0
  have hN : ∀ i, Nat.blt i 2 = true → i < gnL G := fun i h => hn ▸ Nat.blt_eq.mp h
  unfold f_X3_goBack
  show WW G 0 [(0, .ref 37)] [] I L _
  refine w_aload_n (q := 1) (i := 0) (j := 0) hc dX3_goBack_0 rfl rfl rfl ?_
  refine gf_X3_9 (q := 4) hc dX3_goBack_1 (k_37 hK) rfl ?_
  refine w_ifgt (q := 7) (tgt := 8) hc dX3_goBack_4 rfl rfl ?_ ?_
  · refine w_aload_n (q := 9) (i := 0) (j := 0) hc dX3_goBack_8 rfl rfl rfl ?_
    refine w_dup_ref (q := 10) hc dX3_goBack_9  rfl ?_
    refine gf_X3_9 (q := 13) hc dX3_goBack_10 (k_37 hK) rfl ?_
    refine w_iconst (q := 14) hc dX3_goBack_13 ci_1 rfl ?_
    refine w_isub (q := 15) hc dX3_goBack_14  rfl ?_
    refine pf_X3_9 (q := 18) hc dX3_goBack_15 (k_37 hK) rfl (fun I_1 => ?_)
    refine w_aload_n (q := 19) (i := 0) (j := 0) hc dX3_goBack_18 rfl rfl rfl ?_
    refine w_aload_n (q := 20) (i := 0) (j := 0) hc dX3_goBack_19 rfl rfl rfl ?_
    refine gf_X3_26 (q := 23) hc dX3_goBack_20 (k_37 hK) (r_37_4 hR) rfl ?_
    refine w_aload_n (q := 24) (i := 0) (j := 0) hc dX3_goBack_23 rfl rfl rfl ?_
    refine gf_X3_9 (q := 27) hc dX3_goBack_24 (k_37 hK) rfl ?_
    refine w_lald (q := 28) hc dX3_goBack_27 (k_39 hK) rfl ?_
    refine pf_X3_15 (q := 31) hc dX3_goBack_28 (k_37 hK) rfl (fun L_2 => ?_)
    refine w_aload_n (q := 32) (i := 0) (j := 0) hc dX3_goBack_31 rfl rfl rfl ?_
    refine w_aload_n (q := 33) (i := 0) (j := 0) hc dX3_goBack_32 rfl rfl rfl ?_
    refine gf_X3_29 (q := 36) hc dX3_goBack_33 (k_37 hK) (r_37_5 hR) rfl ?_
    refine w_aload_n (q := 37) (i := 0) (j := 0) hc dX3_goBack_36 rfl rfl rfl ?_
    refine gf_X3_9 (q := 40) hc dX3_goBack_37 (k_37 hK) rfl ?_
    refine w_iald (q := 41) hc dX3_goBack_40 (k_40 hK) rfl ?_
    refine pf_X3_19 (q := 44) hc dX3_goBack_41 (k_37 hK) rfl (fun I_3 => ?_)
    refine w_iconst (q := 45) hc dX3_goBack_44 ci_0 rfl ?_
    refine w_istore_n (q := 46) (i := 1) (lv' := [(1, .int 0), (0, .ref 37)]) hc dX3_goBack_45 rfl (hN 1 rfl) rfl rfl ?_
    refine w_sub [1, 0] rfl ?_
    exact wl_X3_goBack_46 I_3 hc hq hK hR hn FU 0 L_2
  · exact w_return hc hq dX3_goBack_7 rfl rfl
