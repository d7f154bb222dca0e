theorem cb_60 : (Int8.ofInt (60)).toInt32 = (60) := by decide +kernel
theorem cb_72 : (Int8.ofInt (72)).toInt32 = (72) := by decide +kernel
theorem cs_160 : (Int16.ofInt (160)).toInt32 = (160) := by decide +kernel
theorem cs_852 : (Int16.ofInt (852)).toInt32 = (852) := by decide +kernel
theorem cs_4000 : (Int16.ofInt (4000)).toInt32 = (4000) := by decide +kernel
theorem kS {G : GT Mm} {ad0 : Nat → Nat} {KB : KT} {RL : RLT} {Rb : MR} {n0 n1 m1 mc ms n m c s p : Nat} {k : Nat × Nat} (hX : SXX G ad0 KB RL Rb n0 n1 m1 mc ms n m c s) (hp : p < n) (hk : KB[p]? = some k) : (gK G)[p]? = some k := by rw [hX.2.2.2.1, List.getElem?_take, if_pos hp]; exact hk
theorem oi_inst : Cond.instanceMethod Lib.objectInit ∈ wsA := tb1 (List.mem_of_getElem? (i := 23) rfl) rfl
theorem oi_code : Cond.code Lib.objectInit ⟨#[0xb1]⟩ 1 none ∈ wsA := tb1 (List.mem_of_getElem? (i := 24) rfl) rfl
theorem oi_X0 : Cond.methodLink RX0 5 Lib.objectInit ∈ wsA := tb1 (List.mem_of_getElem? (i := 100) rfl) rfl
theorem oi_X1 : Cond.methodLink RX1 1 Lib.objectInit ∈ wsA := tb1 (List.mem_of_getElem? (i := 132) rfl) rfl
theorem oi_X2 : Cond.methodLink RX2 3 Lib.objectInit ∈ wsA := tb1 (List.mem_of_getElem? (i := 94) rfl) rfl
theorem oi_X3 : Cond.methodLink RX3 3 Lib.objectInit ∈ wsA := tb1 (List.mem_of_getElem? (i := 198) rfl) rfl
theorem oi_X4 : Cond.methodLink RX4 3 Lib.objectInit ∈ wsA := tb3 (List.mem_of_getElem? (i := 235) rfl) rfl
theorem oi_X5 : Cond.methodLink RX5 3 Lib.objectInit ∈ wsA := tb1 (List.mem_of_getElem? (i := 30) rfl) rfl
theorem oi_X7 : Cond.methodLink RX7 1 Lib.objectInit ∈ wsA := tb1 (List.mem_of_getElem? (i := 22) rfl) rfl
theorem oi_X8 : Cond.methodLink RX8 1 Lib.objectInit ∈ wsA := tb6 (List.mem_of_getElem? (i := 47) rfl) rfl
set_option maxRecDepth 100000 in
set_option maxHeartbeats 4000000 in
theorem k_X5_1 {l : Launch} {I : MI} {L : ML} (hzI : ∀ p, 1 ≤ p → I p = fun _ => 0) (hzL : ∀ p, 1 ≤ p → L p = fun _ => 0) : MFs l yX5_init cX5_init 1 1 12 4 418 [.ref 1] K0 RL0 Rb0 2 0 6 4 I L (some ((up2 (up2 I 1 14 (-1)) 1 15 (-1)), L)) := by
  refine mfs_of (plainFor_of_name (by decide)) rfl (Nat.le_of_ble_eq_true rfl) ?_
  intro G ad0 hc hX hRm hn
  show WW G 0 [(0, .ref 1)] [] I L _
  refine w_aload_n (q := 1) (i := 0) (j := 0) hc dX5_init_0 rfl rfl rfl ?_
  refine w_objI (q := 4) hc dX5_init_1 oi_X5 oi_inst oi_code (Nat.le_of_ble_eq_true rfl) (Nat.le_of_ble_eq_true rfl) rfl ?_
  refine w_aload_n (q := 5) (i := 0) (j := 0) hc dX5_init_4 rfl rfl rfl ?_
  refine w_sipush (q := 8) hc dX5_init_5 cs_400 rfl ?_
  refine w_newA (q := 10) (code := 12) (N := 400) (atype := .byte) (ty := .byte) (t0 := 2) hc hX hRm hn dX5_init_8 rfl rfl (tb1 (List.mem_of_getElem? (i := 86) rfl) rfl) (fun _ h => by cases h) (fun _ => rfl) (cell_12 400) (by decide) (by decide +kernel) (Nat.le_of_ble_eq_true rfl) (hzI 2 (by decide)) (hzL 2 (by decide)) (by decide) (rp_ne rfl (by decide)) (Nat.le_of_ble_eq_true rfl) (Nat.le_of_ble_eq_true rfl) rfl rfl rfl (fun G hc hX hRm hn => ?_)
  refine w_putS (q := 13) (C := RX5) (T := TX5) (N := 16) (k := 0) (ty0 := tyX5) (ty := (.array .byte)) hc hX hRm hn dX5_init_10 rfl rfl rfl (by decide) rfl (by decide) inA_X5 tyX5_ok nmX5 (by decide) (by decide +kernel) rfl fl_X5_11 rfl rfl rfl (by decide +kernel) (nar_arr _) (fun _ => rfl) rfl (fun G hc hX hRm hn => ?_)
  refine w_aload_n (q := 14) (i := 0) (j := 0) hc dX5_init_13 rfl rfl rfl ?_
  refine w_iconst (q := 15) hc dX5_init_14 ci_0 rfl ?_
  refine w_put0 (q := 18) (C := RX5) (T := TX5) (N := 16) (k := 1) (ty0 := tyX5) (ty := .int) hc dX5_init_15 (kS hX (by decide) rfl) rfl (by decide) inA_X5 tyX5_ok nmX5 (by decide) (by decide +kernel) rfl fl_X5_15 rfl rfl (by decide +kernel) (by decide +kernel) (by decide +kernel) (hzI 1 (by decide)) rfl ?_
  refine w_aload_n (q := 19) (i := 0) (j := 0) hc dX5_init_18 rfl rfl rfl ?_
  refine w_iconst (q := 20) hc dX5_init_19 ci_0 rfl ?_
  refine w_put0 (q := 23) (C := RX5) (T := TX5) (N := 16) (k := 2) (ty0 := tyX5) (ty := .int) hc dX5_init_20 (kS hX (by decide) rfl) rfl (by decide) inA_X5 tyX5_ok nmX5 (by decide) (by decide +kernel) rfl fl_X5_19 rfl rfl (by decide +kernel) (by decide +kernel) (by decide +kernel) (hzI 1 (by decide)) rfl ?_
  refine w_aload_n (q := 24) (i := 0) (j := 0) hc dX5_init_23 rfl rfl rfl ?_
  refine w_iconst (q := 25) hc dX5_init_24 ci_0 rfl ?_
  refine w_put0 (q := 28) (C := RX5) (T := TX5) (N := 16) (k := 3) (ty0 := tyX5) (ty := .int) hc dX5_init_25 (kS hX (by decide) rfl) rfl (by decide) inA_X5 tyX5_ok nmX5 (by decide) (by decide +kernel) rfl fl_X5_22 rfl rfl (by decide +kernel) (by decide +kernel) (by decide +kernel) (hzI 1 (by decide)) rfl ?_
  refine w_aload_n (q := 29) (i := 0) (j := 0) hc dX5_init_28 rfl rfl rfl ?_
  refine w_iconst (q := 30) hc dX5_init_29 ci_0 rfl ?_
  refine w_put0 (q := 33) (C := RX5) (T := TX5) (N := 16) (k := 4) (ty0 := tyX5) (ty := .int) hc dX5_init_30 (kS hX (by decide) rfl) rfl (by decide) inA_X5 tyX5_ok nmX5 (by decide) (by decide +kernel) rfl fl_X5_25 rfl rfl (by decide +kernel) (by decide +kernel) (by decide +kernel) (hzI 1 (by decide)) rfl ?_
  refine w_aload_n (q := 34) (i := 0) (j := 0) hc dX5_init_33 rfl rfl rfl ?_
  refine w_iconst (q := 35) hc dX5_init_34 ci_0 rfl ?_
  refine w_put0 (q := 38) (C := RX5) (T := TX5) (N := 16) (k := 5) (ty0 := tyX5) (ty := .int) hc dX5_init_35 (kS hX (by decide) rfl) rfl (by decide) inA_X5 tyX5_ok nmX5 (by decide) (by decide +kernel) rfl fl_X5_28 rfl rfl (by decide +kernel) (by decide +kernel) (by decide +kernel) (hzI 1 (by decide)) rfl ?_
  refine w_aload_n (q := 39) (i := 0) (j := 0) hc dX5_init_38 rfl rfl rfl ?_
  refine w_iconst (q := 40) hc dX5_init_39 ci_0 rfl ?_
  refine w_put0 (q := 43) (C := RX5) (T := TX5) (N := 16) (k := 6) (ty0 := tyX5) (ty := .int) hc dX5_init_40 (kS hX (by decide) rfl) rfl (by decide) inA_X5 tyX5_ok nmX5 (by decide) (by decide +kernel) rfl fl_X5_31 rfl rfl (by decide +kernel) (by decide +kernel) (by decide +kernel) (hzI 1 (by decide)) rfl ?_
  refine w_aload_n (q := 44) (i := 0) (j := 0) hc dX5_init_43 rfl rfl rfl ?_
  refine w_iconst (q := 45) hc dX5_init_44 ci_0 rfl ?_
  refine w_put0 (q := 48) (C := RX5) (T := TX5) (N := 16) (k := 7) (ty0 := tyX5) (ty := .int) hc dX5_init_45 (kS hX (by decide) rfl) rfl (by decide) inA_X5 tyX5_ok nmX5 (by decide) (by decide +kernel) rfl fl_X5_34 rfl rfl (by decide +kernel) (by decide +kernel) (by decide +kernel) (hzI 1 (by decide)) rfl ?_
  refine w_aload_n (q := 49) (i := 0) (j := 0) hc dX5_init_48 rfl rfl rfl ?_
  refine w_iconst (q := 50) hc dX5_init_49 ci_0 rfl ?_
  refine w_put0 (q := 53) (C := RX5) (T := TX5) (N := 16) (k := 8) (ty0 := tyX5) (ty := .int) hc dX5_init_50 (kS hX (by decide) rfl) rfl (by decide) inA_X5 tyX5_ok nmX5 (by decide) (by decide +kernel) rfl fl_X5_37 rfl rfl (by decide +kernel) (by decide +kernel) (by decide +kernel) (hzI 1 (by decide)) rfl ?_
  refine w_aload_n (q := 54) (i := 0) (j := 0) hc dX5_init_53 rfl rfl rfl ?_
  refine w_bipush (q := 56) hc dX5_init_54 cb_6 rfl ?_
  refine w_newA (q := 58) (code := 11) (N := 6) (atype := .long) (ty := .long) (t0 := 1) hc hX hRm hn dX5_init_56 rfl rfl (tb1 (List.mem_of_getElem? (i := 87) rfl) rfl) (fun _ h => by cases h) (fun _ => rfl) (cell_11 6) (by decide) (by decide +kernel) (Nat.le_of_ble_eq_true rfl) (hzI 3 (by decide)) (hzL 3 (by decide)) (by decide) (rp_ne rfl (by decide)) (Nat.le_of_ble_eq_true rfl) (Nat.le_of_ble_eq_true rfl) rfl rfl rfl (fun G hc hX hRm hn => ?_)
  refine w_putS (q := 61) (C := RX5) (T := TX5) (N := 16) (k := 9) (ty0 := tyX5) (ty := (.array .long)) hc hX hRm hn dX5_init_58 rfl rfl rfl (by decide) rfl (by decide) inA_X5 tyX5_ok nmX5 (by decide) (by decide +kernel) rfl fl_X5_40 rfl rfl rfl (by decide +kernel) (nar_arr _) (fun _ => rfl) rfl (fun G hc hX hRm hn => ?_)
  refine w_aload_n (q := 62) (i := 0) (j := 0) hc dX5_init_61 rfl rfl rfl ?_
  refine w_bipush (q := 64) hc dX5_init_62 cb_6 rfl ?_
  refine w_newA (q := 66) (code := 10) (N := 6) (atype := .int) (ty := .int) (t0 := 0) hc hX hRm hn dX5_init_64 rfl rfl (tb1 (List.mem_of_getElem? (i := 88) rfl) rfl) (fun _ h => by cases h) (fun _ => rfl) (cell_10 6) (by decide) (by decide +kernel) (Nat.le_of_ble_eq_true rfl) (hzI 4 (by decide)) (hzL 4 (by decide)) (by decide) (rp_ne rfl (by decide)) (Nat.le_of_ble_eq_true rfl) (Nat.le_of_ble_eq_true rfl) rfl rfl rfl (fun G hc hX hRm hn => ?_)
  refine w_putS (q := 69) (C := RX5) (T := TX5) (N := 16) (k := 10) (ty0 := tyX5) (ty := (.array .int)) hc hX hRm hn dX5_init_66 rfl rfl rfl (by decide) rfl (by decide) inA_X5 tyX5_ok nmX5 (by decide) (by decide +kernel) rfl fl_X5_44 rfl rfl rfl (by decide +kernel) (nar_arr _) (fun _ => rfl) rfl (fun G hc hX hRm hn => ?_)
  refine w_aload_n (q := 70) (i := 0) (j := 0) hc dX5_init_69 rfl rfl rfl ?_
  refine w_bipush (q := 72) hc dX5_init_70 cb_6 rfl ?_
  refine w_newA (q := 74) (code := 10) (N := 6) (atype := .int) (ty := .int) (t0 := 0) hc hX hRm hn dX5_init_72 rfl rfl (tb1 (List.mem_of_getElem? (i := 88) rfl) rfl) (fun _ h => by cases h) (fun _ => rfl) (cell_10 6) (by decide) (by decide +kernel) (Nat.le_of_ble_eq_true rfl) (hzI 5 (by decide)) (hzL 5 (by decide)) (by decide) (rp_ne rfl (by decide)) (Nat.le_of_ble_eq_true rfl) (Nat.le_of_ble_eq_true rfl) rfl rfl rfl (fun G hc hX hRm hn => ?_)
  refine w_putS (q := 77) (C := RX5) (T := TX5) (N := 16) (k := 11) (ty0 := tyX5) (ty := (.array .int)) hc hX hRm hn dX5_init_74 rfl rfl rfl (by decide) rfl (by decide) inA_X5 tyX5_ok nmX5 (by decide) (by decide +kernel) rfl fl_X5_48 rfl rfl rfl (by decide +kernel) (nar_arr _) (fun _ => rfl) rfl (fun G hc hX hRm hn => ?_)
  refine w_aload_n (q := 78) (i := 0) (j := 0) hc dX5_init_77 rfl rfl rfl ?_
  refine w_lconst (q := 79) hc dX5_init_78 cl_0 rfl ?_
  refine w_put0L (q := 82) (C := RX5) (T := TX5) (N := 16) (k := 12) (ty0 := tyX5) (ty := .long) hc dX5_init_79 (kS hX (by decide) rfl) rfl (by decide) inA_X5 tyX5_ok nmX5 (by decide) (by decide +kernel) rfl fl_X5_51 rfl rfl (by decide +kernel) (hzL 1 (by decide)) rfl ?_
  refine w_aload_n (q := 83) (i := 0) (j := 0) hc dX5_init_82 rfl rfl rfl ?_
  refine w_iconst (q := 84) hc dX5_init_83 ci_0 rfl ?_
  refine w_put0 (q := 87) (C := RX5) (T := TX5) (N := 16) (k := 13) (ty0 := tyX5) (ty := .int) hc dX5_init_84 (kS hX (by decide) rfl) rfl (by decide) inA_X5 tyX5_ok nmX5 (by decide) (by decide +kernel) rfl fl_X5_55 rfl rfl (by decide +kernel) (by decide +kernel) (by decide +kernel) (hzI 1 (by decide)) rfl ?_
  refine w_aload_n (q := 88) (i := 0) (j := 0) hc dX5_init_87 rfl rfl rfl ?_
  refine w_iconst (q := 89) hc dX5_init_88 ci_m1 rfl ?_
  refine w_putE (q := 92) (C := RX5) (T := TX5) (N := 16) (k := 14) (ty0 := tyX5) (ty := .int) hc dX5_init_89 (kS hX (by decide) rfl) rfl (by decide) inA_X5 tyX5_ok nmX5 (by decide) (by decide +kernel) rfl fl_X5_58 rfl rfl (by decide +kernel) (by decide +kernel) (by decide +kernel) rfl ?_
  refine w_aload_n (q := 93) (i := 0) (j := 0) hc dX5_init_92 rfl rfl rfl ?_
  refine w_iconst (q := 94) hc dX5_init_93 ci_m1 rfl ?_
  refine w_putE (q := 97) (C := RX5) (T := TX5) (N := 16) (k := 15) (ty0 := tyX5) (ty := .int) hc dX5_init_94 (kS hX (by decide) rfl) rfl (by decide) inA_X5 tyX5_ok nmX5 (by decide) (by decide +kernel) rfl fl_X5_61 rfl rfl (by decide +kernel) (by decide +kernel) (by decide +kernel) rfl ?_
  exact w_returnS hc hX dX5_init_97
set_option maxRecDepth 100000 in
set_option maxHeartbeats 4000000 in
theorem k_X0_8 {l : Launch} {I : MI} {L : ML} (hzI : ∀ p, 8 ≤ p → I p = fun _ => 0) (hzL : ∀ p, 8 ≤ p → L p = fun _ => 0) : MFs l yX0_init cX0_init 1 1 12 6 660 [.ref 8] K0 RL0 Rb0 9 6 15 12 I L (some (I, L)) := by
  refine mfs_of (plainFor_of_name (by decide)) rfl (Nat.le_of_ble_eq_true rfl) ?_
  intro G ad0 hc hX hRm hn
  show WW G 0 [(0, .ref 8)] [] I L _
  refine w_aload_n (q := 1) (i := 0) (j := 0) hc dX0_init_0 rfl rfl rfl ?_
  refine w_objI (q := 4) hc dX0_init_1 oi_X0 oi_inst oi_code (Nat.le_of_ble_eq_true rfl) (Nat.le_of_ble_eq_true rfl) rfl ?_
  refine w_aload_n (q := 5) (i := 0) (j := 0) hc dX0_init_4 rfl rfl rfl ?_
  refine w_iconst (q := 6) hc dX0_init_5 ci_0 rfl ?_
  refine w_put0 (q := 9) (C := RX0) (T := TX0) (N := 8) (k := 0) (ty0 := tyX0) (ty := .int) hc dX0_init_6 (kS hX (by decide) rfl) rfl (by decide) inA_X0 tyX0_ok nmX0 (by decide) (by decide +kernel) rfl fl_X0_11 rfl rfl (by decide +kernel) (by decide +kernel) (by decide +kernel) (hzI 8 (by decide)) rfl ?_
  refine w_aload_n (q := 10) (i := 0) (j := 0) hc dX0_init_9 rfl rfl rfl ?_
  refine w_lconst (q := 11) hc dX0_init_10 cl_0 rfl ?_
  refine w_put0L (q := 14) (C := RX0) (T := TX0) (N := 8) (k := 1) (ty0 := tyX0) (ty := .long) hc dX0_init_11 (kS hX (by decide) rfl) rfl (by decide) inA_X0 tyX0_ok nmX0 (by decide) (by decide +kernel) rfl fl_X0_15 rfl rfl (by decide +kernel) (hzL 8 (by decide)) rfl ?_
  refine w_aload_n (q := 15) (i := 0) (j := 0) hc dX0_init_14 rfl rfl rfl ?_
  refine w_bipush (q := 17) hc dX0_init_15 cb_10 rfl ?_
  refine w_newA (q := 19) (code := 10) (N := 10) (atype := .int) (ty := .int) (t0 := 0) hc hX hRm hn dX0_init_17 rfl rfl (tb1 (List.mem_of_getElem? (i := 88) rfl) rfl) (fun _ h => by cases h) (fun _ => rfl) (cell_10 10) (by decide) (by decide +kernel) (Nat.le_of_ble_eq_true rfl) (hzI 9 (by decide)) (hzL 9 (by decide)) (by decide) (rp_ne rfl (by decide)) (Nat.le_of_ble_eq_true rfl) (Nat.le_of_ble_eq_true rfl) rfl rfl rfl (fun G hc hX hRm hn => ?_)
  refine w_putS (q := 22) (C := RX0) (T := TX0) (N := 8) (k := 2) (ty0 := tyX0) (ty := (.array .int)) hc hX hRm hn dX0_init_19 rfl rfl rfl (by decide) rfl (by decide) inA_X0 tyX0_ok nmX0 (by decide) (by decide +kernel) rfl fl_X0_19 rfl rfl rfl (by decide +kernel) (nar_arr _) (fun _ => rfl) rfl (fun G hc hX hRm hn => ?_)
  refine w_aload_n (q := 23) (i := 0) (j := 0) hc dX0_init_22 rfl rfl rfl ?_
  refine w_sipush (q := 26) hc dX0_init_23 cs_160 rfl ?_
  refine w_newA (q := 28) (code := 11) (N := 160) (atype := .long) (ty := .long) (t0 := 1) hc hX hRm hn dX0_init_26 rfl rfl (tb1 (List.mem_of_getElem? (i := 87) rfl) rfl) (fun _ h => by cases h) (fun _ => rfl) (cell_11 160) (by decide) (by decide +kernel) (Nat.le_of_ble_eq_true rfl) (hzI 10 (by decide)) (hzL 10 (by decide)) (by decide) (rp_ne rfl (by decide)) (Nat.le_of_ble_eq_true rfl) (Nat.le_of_ble_eq_true rfl) rfl rfl rfl (fun G hc hX hRm hn => ?_)
  refine w_putS (q := 31) (C := RX0) (T := TX0) (N := 8) (k := 3) (ty0 := tyX0) (ty := (.array .long)) hc hX hRm hn dX0_init_28 rfl rfl rfl (by decide) rfl (by decide) inA_X0 tyX0_ok nmX0 (by decide) (by decide +kernel) rfl fl_X0_23 rfl rfl rfl (by decide +kernel) (nar_arr _) (fun _ => rfl) rfl (fun G hc hX hRm hn => ?_)
  refine w_aload_n (q := 32) (i := 0) (j := 0) hc dX0_init_31 rfl rfl rfl ?_
  refine w_sipush (q := 35) hc dX0_init_32 cs_160 rfl ?_
  refine w_newA (q := 37) (code := 11) (N := 160) (atype := .long) (ty := .long) (t0 := 1) hc hX hRm hn dX0_init_35 rfl rfl (tb1 (List.mem_of_getElem? (i := 87) rfl) rfl) (fun _ h => by cases h) (fun _ => rfl) (cell_11 160) (by decide) (by decide +kernel) (Nat.le_of_ble_eq_true rfl) (hzI 11 (by decide)) (hzL 11 (by decide)) (by decide) (rp_ne rfl (by decide)) (Nat.le_of_ble_eq_true rfl) (Nat.le_of_ble_eq_true rfl) rfl rfl rfl (fun G hc hX hRm hn => ?_)
  refine w_putS (q := 40) (C := RX0) (T := TX0) (N := 8) (k := 4) (ty0 := tyX0) (ty := (.array .long)) hc hX hRm hn dX0_init_37 rfl rfl rfl (by decide) rfl (by decide) inA_X0 tyX0_ok nmX0 (by decide) (by decide +kernel) rfl fl_X0_27 rfl rfl rfl (by decide +kernel) (nar_arr _) (fun _ => rfl) rfl (fun G hc hX hRm hn => ?_)
  refine w_aload_n (q := 41) (i := 0) (j := 0) hc dX0_init_40 rfl rfl rfl ?_
  refine w_sipush (q := 44) hc dX0_init_41 cs_160 rfl ?_
  refine w_newA (q := 46) (code := 11) (N := 160) (atype := .long) (ty := .long) (t0 := 1) hc hX hRm hn dX0_init_44 rfl rfl (tb1 (List.mem_of_getElem? (i := 87) rfl) rfl) (fun _ h => by cases h) (fun _ => rfl) (cell_11 160) (by decide) (by decide +kernel) (Nat.le_of_ble_eq_true rfl) (hzI 12 (by decide)) (hzL 12 (by decide)) (by decide) (rp_ne rfl (by decide)) (Nat.le_of_ble_eq_true rfl) (Nat.le_of_ble_eq_true rfl) rfl rfl rfl (fun G hc hX hRm hn => ?_)
  refine w_putS (q := 49) (C := RX0) (T := TX0) (N := 8) (k := 5) (ty0 := tyX0) (ty := (.array .long)) hc hX hRm hn dX0_init_46 rfl rfl rfl (by decide) rfl (by decide) inA_X0 tyX0_ok nmX0 (by decide) (by decide +kernel) rfl fl_X0_30 rfl rfl rfl (by decide +kernel) (nar_arr _) (fun _ => rfl) rfl (fun G hc hX hRm hn => ?_)
  refine w_aload_n (q := 50) (i := 0) (j := 0) hc dX0_init_49 rfl rfl rfl ?_
  refine w_bipush (q := 52) hc dX0_init_50 cb_10 rfl ?_
  refine w_newA (q := 54) (code := 10) (N := 10) (atype := .int) (ty := .int) (t0 := 0) hc hX hRm hn dX0_init_52 rfl rfl (tb1 (List.mem_of_getElem? (i := 88) rfl) rfl) (fun _ h => by cases h) (fun _ => rfl) (cell_10 10) (by decide) (by decide +kernel) (Nat.le_of_ble_eq_true rfl) (hzI 13 (by decide)) (hzL 13 (by decide)) (by decide) (rp_ne rfl (by decide)) (Nat.le_of_ble_eq_true rfl) (Nat.le_of_ble_eq_true rfl) rfl rfl rfl (fun G hc hX hRm hn => ?_)
  refine w_putS (q := 57) (C := RX0) (T := TX0) (N := 8) (k := 6) (ty0 := tyX0) (ty := (.array .int)) hc hX hRm hn dX0_init_54 rfl rfl rfl (by decide) rfl (by decide) inA_X0 tyX0_ok nmX0 (by decide) (by decide +kernel) rfl fl_X0_33 rfl rfl rfl (by decide +kernel) (nar_arr _) (fun _ => rfl) rfl (fun G hc hX hRm hn => ?_)
  refine w_aload_n (q := 58) (i := 0) (j := 0) hc dX0_init_57 rfl rfl rfl ?_
  refine w_sipush (q := 61) hc dX0_init_58 cs_160 rfl ?_
  refine w_newA (q := 63) (code := 10) (N := 160) (atype := .int) (ty := .int) (t0 := 0) hc hX hRm hn dX0_init_61 rfl rfl (tb1 (List.mem_of_getElem? (i := 88) rfl) rfl) (fun _ h => by cases h) (fun _ => rfl) (cell_10 160) (by decide) (by decide +kernel) (Nat.le_of_ble_eq_true rfl) (hzI 14 (by decide)) (hzL 14 (by decide)) (by decide) (rp_ne rfl (by decide)) (Nat.le_of_ble_eq_true rfl) (Nat.le_of_ble_eq_true rfl) rfl rfl rfl (fun G hc hX hRm hn => ?_)
  refine w_putS (q := 66) (C := RX0) (T := TX0) (N := 8) (k := 7) (ty0 := tyX0) (ty := (.array .int)) hc hX hRm hn dX0_init_63 rfl rfl rfl (by decide) rfl (by decide) inA_X0 tyX0_ok nmX0 (by decide) (by decide +kernel) rfl fl_X0_36 rfl rfl rfl (by decide +kernel) (nar_arr _) (fun _ => rfl) rfl (fun G hc hX hRm hn => ?_)
  exact w_returnS hc hX dX0_init_66
set_option maxRecDepth 100000 in
set_option maxHeartbeats 4000000 in
theorem k_X0_15 {l : Launch} {I : MI} {L : ML} (hzI : ∀ p, 15 ≤ p → I p = fun _ => 0) (hzL : ∀ p, 15 ≤ p → L p = fun _ => 0) : MFs l yX0_init cX0_init 1 1 12 6 660 [.ref 15] K0 RL0 Rb0 16 13 22 19 I L (some (I, L)) := by
  refine mfs_of (plainFor_of_name (by decide)) rfl (Nat.le_of_ble_eq_true rfl) ?_
  intro G ad0 hc hX hRm hn
  show WW G 0 [(0, .ref 15)] [] I L _
  refine w_aload_n (q := 1) (i := 0) (j := 0) hc dX0_init_0 rfl rfl rfl ?_
  refine w_objI (q := 4) hc dX0_init_1 oi_X0 oi_inst oi_code (Nat.le_of_ble_eq_true rfl) (Nat.le_of_ble_eq_true rfl) rfl ?_
  refine w_aload_n (q := 5) (i := 0) (j := 0) hc dX0_init_4 rfl rfl rfl ?_
  refine w_iconst (q := 6) hc dX0_init_5 ci_0 rfl ?_
  refine w_put0 (q := 9) (C := RX0) (T := TX0) (N := 8) (k := 0) (ty0 := tyX0) (ty := .int) hc dX0_init_6 (kS hX (by decide) rfl) rfl (by decide) inA_X0 tyX0_ok nmX0 (by decide) (by decide +kernel) rfl fl_X0_11 rfl rfl (by decide +kernel) (by decide +kernel) (by decide +kernel) (hzI 15 (by decide)) rfl ?_
  refine w_aload_n (q := 10) (i := 0) (j := 0) hc dX0_init_9 rfl rfl rfl ?_
  refine w_lconst (q := 11) hc dX0_init_10 cl_0 rfl ?_
  refine w_put0L (q := 14) (C := RX0) (T := TX0) (N := 8) (k := 1) (ty0 := tyX0) (ty := .long) hc dX0_init_11 (kS hX (by decide) rfl) rfl (by decide) inA_X0 tyX0_ok nmX0 (by decide) (by decide +kernel) rfl fl_X0_15 rfl rfl (by decide +kernel) (hzL 15 (by decide)) rfl ?_
  refine w_aload_n (q := 15) (i := 0) (j := 0) hc dX0_init_14 rfl rfl rfl ?_
  refine w_bipush (q := 17) hc dX0_init_15 cb_10 rfl ?_
  refine w_newA (q := 19) (code := 10) (N := 10) (atype := .int) (ty := .int) (t0 := 0) hc hX hRm hn dX0_init_17 rfl rfl (tb1 (List.mem_of_getElem? (i := 88) rfl) rfl) (fun _ h => by cases h) (fun _ => rfl) (cell_10 10) (by decide) (by decide +kernel) (Nat.le_of_ble_eq_true rfl) (hzI 16 (by decide)) (hzL 16 (by decide)) (by decide) (rp_ne rfl (by decide)) (Nat.le_of_ble_eq_true rfl) (Nat.le_of_ble_eq_true rfl) rfl rfl rfl (fun G hc hX hRm hn => ?_)
  refine w_putS (q := 22) (C := RX0) (T := TX0) (N := 8) (k := 2) (ty0 := tyX0) (ty := (.array .int)) hc hX hRm hn dX0_init_19 rfl rfl rfl (by decide) rfl (by decide) inA_X0 tyX0_ok nmX0 (by decide) (by decide +kernel) rfl fl_X0_19 rfl rfl rfl (by decide +kernel) (nar_arr _) (fun _ => rfl) rfl (fun G hc hX hRm hn => ?_)
  refine w_aload_n (q := 23) (i := 0) (j := 0) hc dX0_init_22 rfl rfl rfl ?_
  refine w_sipush (q := 26) hc dX0_init_23 cs_160 rfl ?_
  refine w_newA (q := 28) (code := 11) (N := 160) (atype := .long) (ty := .long) (t0 := 1) hc hX hRm hn dX0_init_26 rfl rfl (tb1 (List.mem_of_getElem? (i := 87) rfl) rfl) (fun _ h => by cases h) (fun _ => rfl) (cell_11 160) (by decide) (by decide +kernel) (Nat.le_of_ble_eq_true rfl) (hzI 17 (by decide)) (hzL 17 (by decide)) (by decide) (rp_ne rfl (by decide)) (Nat.le_of_ble_eq_true rfl) (Nat.le_of_ble_eq_true rfl) rfl rfl rfl (fun G hc hX hRm hn => ?_)
  refine w_putS (q := 31) (C := RX0) (T := TX0) (N := 8) (k := 3) (ty0 := tyX0) (ty := (.array .long)) hc hX hRm hn dX0_init_28 rfl rfl rfl (by decide) rfl (by decide) inA_X0 tyX0_ok nmX0 (by decide) (by decide +kernel) rfl fl_X0_23 rfl rfl rfl (by decide +kernel) (nar_arr _) (fun _ => rfl) rfl (fun G hc hX hRm hn => ?_)
  refine w_aload_n (q := 32) (i := 0) (j := 0) hc dX0_init_31 rfl rfl rfl ?_
  refine w_sipush (q := 35) hc dX0_init_32 cs_160 rfl ?_
  refine w_newA (q := 37) (code := 11) (N := 160) (atype := .long) (ty := .long) (t0 := 1) hc hX hRm hn dX0_init_35 rfl rfl (tb1 (List.mem_of_getElem? (i := 87) rfl) rfl) (fun _ h => by cases h) (fun _ => rfl) (cell_11 160) (by decide) (by decide +kernel) (Nat.le_of_ble_eq_true rfl) (hzI 18 (by decide)) (hzL 18 (by decide)) (by decide) (rp_ne rfl (by decide)) (Nat.le_of_ble_eq_true rfl) (Nat.le_of_ble_eq_true rfl) rfl rfl rfl (fun G hc hX hRm hn => ?_)
  refine w_putS (q := 40) (C := RX0) (T := TX0) (N := 8) (k := 4) (ty0 := tyX0) (ty := (.array .long)) hc hX hRm hn dX0_init_37 rfl rfl rfl (by decide) rfl (by decide) inA_X0 tyX0_ok nmX0 (by decide) (by decide +kernel) rfl fl_X0_27 rfl rfl rfl (by decide +kernel) (nar_arr _) (fun _ => rfl) rfl (fun G hc hX hRm hn => ?_)
  refine w_aload_n (q := 41) (i := 0) (j := 0) hc dX0_init_40 rfl rfl rfl ?_
  refine w_sipush (q := 44) hc dX0_init_41 cs_160 rfl ?_
  refine w_newA (q := 46) (code := 11) (N := 160) (atype := .long) (ty := .long) (t0 := 1) hc hX hRm hn dX0_init_44 rfl rfl (tb1 (List.mem_of_getElem? (i := 87) rfl) rfl) (fun _ h => by cases h) (fun _ => rfl) (cell_11 160) (by decide) (by decide +kernel) (Nat.le_of_ble_eq_true rfl) (hzI 19 (by decide)) (hzL 19 (by decide)) (by decide) (rp_ne rfl (by decide)) (Nat.le_of_ble_eq_true rfl) (Nat.le_of_ble_eq_true rfl) rfl rfl rfl (fun G hc hX hRm hn => ?_)
  refine w_putS (q := 49) (C := RX0) (T := TX0) (N := 8) (k := 5) (ty0 := tyX0) (ty := (.array .long)) hc hX hRm hn dX0_init_46 rfl rfl rfl (by decide) rfl (by decide) inA_X0 tyX0_ok nmX0 (by decide) (by decide +kernel) rfl fl_X0_30 rfl rfl rfl (by decide +kernel) (nar_arr _) (fun _ => rfl) rfl (fun G hc hX hRm hn => ?_)
  refine w_aload_n (q := 50) (i := 0) (j := 0) hc dX0_init_49 rfl rfl rfl ?_
  refine w_bipush (q := 52) hc dX0_init_50 cb_10 rfl ?_
  refine w_newA (q := 54) (code := 10) (N := 10) (atype := .int) (ty := .int) (t0 := 0) hc hX hRm hn dX0_init_52 rfl rfl (tb1 (List.mem_of_getElem? (i := 88) rfl) rfl) (fun _ h => by cases h) (fun _ => rfl) (cell_10 10) (by decide) (by decide +kernel) (Nat.le_of_ble_eq_true rfl) (hzI 20 (by decide)) (hzL 20 (by decide)) (by decide) (rp_ne rfl (by decide)) (Nat.le_of_ble_eq_true rfl) (Nat.le_of_ble_eq_true rfl) rfl rfl rfl (fun G hc hX hRm hn => ?_)
  refine w_putS (q := 57) (C := RX0) (T := TX0) (N := 8) (k := 6) (ty0 := tyX0) (ty := (.array .int)) hc hX hRm hn dX0_init_54 rfl rfl rfl (by decide) rfl (by decide) inA_X0 tyX0_ok nmX0 (by decide) (by decide +kernel) rfl fl_X0_33 rfl rfl rfl (by decide +kernel) (nar_arr _) (fun _ => rfl) rfl (fun G hc hX hRm hn => ?_)
  refine w_aload_n (q := 58) (i := 0) (j := 0) hc dX0_init_57 rfl rfl rfl ?_
  refine w_sipush (q := 61) hc dX0_init_58 cs_160 rfl ?_
  refine w_newA (q := 63) (code := 10) (N := 160) (atype := .int) (ty := .int) (t0 := 0) hc hX hRm hn dX0_init_61 rfl rfl (tb1 (List.mem_of_getElem? (i := 88) rfl) rfl) (fun _ h => by cases h) (fun _ => rfl) (cell_10 160) (by decide) (by decide +kernel) (Nat.le_of_ble_eq_true rfl) (hzI 21 (by decide)) (hzL 21 (by decide)) (by decide) (rp_ne rfl (by decide)) (Nat.le_of_ble_eq_true rfl) (Nat.le_of_ble_eq_true rfl) rfl rfl rfl (fun G hc hX hRm hn => ?_)
  refine w_putS (q := 66) (C := RX0) (T := TX0) (N := 8) (k := 7) (ty0 := tyX0) (ty := (.array .int)) hc hX hRm hn dX0_init_63 rfl rfl rfl (by decide) rfl (by decide) inA_X0 tyX0_ok nmX0 (by decide) (by decide +kernel) rfl fl_X0_36 rfl rfl rfl (by decide +kernel) (nar_arr _) (fun _ => rfl) rfl (fun G hc hX hRm hn => ?_)
  exact w_returnS hc hX dX0_init_66
set_option maxRecDepth 100000 in
set_option maxHeartbeats 4000000 in
theorem k_X0_22 {l : Launch} {I : MI} {L : ML} (hzI : ∀ p, 22 ≤ p → I p = fun _ => 0) (hzL : ∀ p, 22 ≤ p → L p = fun _ => 0) : MFs l yX0_init cX0_init 1 1 12 6 660 [.ref 22] K0 RL0 Rb0 23 20 29 26 I L (some (I, L)) := by
  refine mfs_of (plainFor_of_name (by decide)) rfl (Nat.le_of_ble_eq_true rfl) ?_
  intro G ad0 hc hX hRm hn
  show WW G 0 [(0, .ref 22)] [] I L _
  refine w_aload_n (q := 1) (i := 0) (j := 0) hc dX0_init_0 rfl rfl rfl ?_
  refine w_objI (q := 4) hc dX0_init_1 oi_X0 oi_inst oi_code (Nat.le_of_ble_eq_true rfl) (Nat.le_of_ble_eq_true rfl) rfl ?_
  refine w_aload_n (q := 5) (i := 0) (j := 0) hc dX0_init_4 rfl rfl rfl ?_
  refine w_iconst (q := 6) hc dX0_init_5 ci_0 rfl ?_
  refine w_put0 (q := 9) (C := RX0) (T := TX0) (N := 8) (k := 0) (ty0 := tyX0) (ty := .int) hc dX0_init_6 (kS hX (by decide) rfl) rfl (by decide) inA_X0 tyX0_ok nmX0 (by decide) (by decide +kernel) rfl fl_X0_11 rfl rfl (by decide +kernel) (by decide +kernel) (by decide +kernel) (hzI 22 (by decide)) rfl ?_
  refine w_aload_n (q := 10) (i := 0) (j := 0) hc dX0_init_9 rfl rfl rfl ?_
  refine w_lconst (q := 11) hc dX0_init_10 cl_0 rfl ?_
  refine w_put0L (q := 14) (C := RX0) (T := TX0) (N := 8) (k := 1) (ty0 := tyX0) (ty := .long) hc dX0_init_11 (kS hX (by decide) rfl) rfl (by decide) inA_X0 tyX0_ok nmX0 (by decide) (by decide +kernel) rfl fl_X0_15 rfl rfl (by decide +kernel) (hzL 22 (by decide)) rfl ?_
  refine w_aload_n (q := 15) (i := 0) (j := 0) hc dX0_init_14 rfl rfl rfl ?_
  refine w_bipush (q := 17) hc dX0_init_15 cb_10 rfl ?_
  refine w_newA (q := 19) (code := 10) (N := 10) (atype := .int) (ty := .int) (t0 := 0) hc hX hRm hn dX0_init_17 rfl rfl (tb1 (List.mem_of_getElem? (i := 88) rfl) rfl) (fun _ h => by cases h) (fun _ => rfl) (cell_10 10) (by decide) (by decide +kernel) (Nat.le_of_ble_eq_true rfl) (hzI 23 (by decide)) (hzL 23 (by decide)) (by decide) (rp_ne rfl (by decide)) (Nat.le_of_ble_eq_true rfl) (Nat.le_of_ble_eq_true rfl) rfl rfl rfl (fun G hc hX hRm hn => ?_)
  refine w_putS (q := 22) (C := RX0) (T := TX0) (N := 8) (k := 2) (ty0 := tyX0) (ty := (.array .int)) hc hX hRm hn dX0_init_19 rfl rfl rfl (by decide) rfl (by decide) inA_X0 tyX0_ok nmX0 (by decide) (by decide +kernel) rfl fl_X0_19 rfl rfl rfl (by decide +kernel) (nar_arr _) (fun _ => rfl) rfl (fun G hc hX hRm hn => ?_)
  refine w_aload_n (q := 23) (i := 0) (j := 0) hc dX0_init_22 rfl rfl rfl ?_
  refine w_sipush (q := 26) hc dX0_init_23 cs_160 rfl ?_
  refine w_newA (q := 28) (code := 11) (N := 160) (atype := .long) (ty := .long) (t0 := 1) hc hX hRm hn dX0_init_26 rfl rfl (tb1 (List.mem_of_getElem? (i := 87) rfl) rfl) (fun _ h => by cases h) (fun _ => rfl) (cell_11 160) (by decide) (by decide +kernel) (Nat.le_of_ble_eq_true rfl) (hzI 24 (by decide)) (hzL 24 (by decide)) (by decide) (rp_ne rfl (by decide)) (Nat.le_of_ble_eq_true rfl) (Nat.le_of_ble_eq_true rfl) rfl rfl rfl (fun G hc hX hRm hn => ?_)
  refine w_putS (q := 31) (C := RX0) (T := TX0) (N := 8) (k := 3) (ty0 := tyX0) (ty := (.array .long)) hc hX hRm hn dX0_init_28 rfl rfl rfl (by decide) rfl (by decide) inA_X0 tyX0_ok nmX0 (by decide) (by decide +kernel) rfl fl_X0_23 rfl rfl rfl (by decide +kernel) (nar_arr _) (fun _ => rfl) rfl (fun G hc hX hRm hn => ?_)
  refine w_aload_n (q := 32) (i := 0) (j := 0) hc dX0_init_31 rfl rfl rfl ?_
  refine w_sipush (q := 35) hc dX0_init_32 cs_160 rfl ?_
  refine w_newA (q := 37) (code := 11) (N := 160) (atype := .long) (ty := .long) (t0 := 1) hc hX hRm hn dX0_init_35 rfl rfl (tb1 (List.mem_of_getElem? (i := 87) rfl) rfl) (fun _ h => by cases h) (fun _ => rfl) (cell_11 160) (by decide) (by decide +kernel) (Nat.le_of_ble_eq_true rfl) (hzI 25 (by decide)) (hzL 25 (by decide)) (by decide) (rp_ne rfl (by decide)) (Nat.le_of_ble_eq_true rfl) (Nat.le_of_ble_eq_true rfl) rfl rfl rfl (fun G hc hX hRm hn => ?_)
  refine w_putS (q := 40) (C := RX0) (T := TX0) (N := 8) (k := 4) (ty0 := tyX0) (ty := (.array .long)) hc hX hRm hn dX0_init_37 rfl rfl rfl (by decide) rfl (by decide) inA_X0 tyX0_ok nmX0 (by decide) (by decide +kernel) rfl fl_X0_27 rfl rfl rfl (by decide +kernel) (nar_arr _) (fun _ => rfl) rfl (fun G hc hX hRm hn => ?_)
  refine w_aload_n (q := 41) (i := 0) (j := 0) hc dX0_init_40 rfl rfl rfl ?_
  refine w_sipush (q := 44) hc dX0_init_41 cs_160 rfl ?_
  refine w_newA (q := 46) (code := 11) (N := 160) (atype := .long) (ty := .long) (t0 := 1) hc hX hRm hn dX0_init_44 rfl rfl (tb1 (List.mem_of_getElem? (i := 87) rfl) rfl) (fun _ h => by cases h) (fun _ => rfl) (cell_11 160) (by decide) (by decide +kernel) (Nat.le_of_ble_eq_true rfl) (hzI 26 (by decide)) (hzL 26 (by decide)) (by decide) (rp_ne rfl (by decide)) (Nat.le_of_ble_eq_true rfl) (Nat.le_of_ble_eq_true rfl) rfl rfl rfl (fun G hc hX hRm hn => ?_)
  refine w_putS (q := 49) (C := RX0) (T := TX0) (N := 8) (k := 5) (ty0 := tyX0) (ty := (.array .long)) hc hX hRm hn dX0_init_46 rfl rfl rfl (by decide) rfl (by decide) inA_X0 tyX0_ok nmX0 (by decide) (by decide +kernel) rfl fl_X0_30 rfl rfl rfl (by decide +kernel) (nar_arr _) (fun _ => rfl) rfl (fun G hc hX hRm hn => ?_)
  refine w_aload_n (q := 50) (i := 0) (j := 0) hc dX0_init_49 rfl rfl rfl ?_
  refine w_bipush (q := 52) hc dX0_init_50 cb_10 rfl ?_
  refine w_newA (q := 54) (code := 10) (N := 10) (atype := .int) (ty := .int) (t0 := 0) hc hX hRm hn dX0_init_52 rfl rfl (tb1 (List.mem_of_getElem? (i := 88) rfl) rfl) (fun _ h => by cases h) (fun _ => rfl) (cell_10 10) (by decide) (by decide +kernel) (Nat.le_of_ble_eq_true rfl) (hzI 27 (by decide)) (hzL 27 (by decide)) (by decide) (rp_ne rfl (by decide)) (Nat.le_of_ble_eq_true rfl) (Nat.le_of_ble_eq_true rfl) rfl rfl rfl (fun G hc hX hRm hn => ?_)
  refine w_putS (q := 57) (C := RX0) (T := TX0) (N := 8) (k := 6) (ty0 := tyX0) (ty := (.array .int)) hc hX hRm hn dX0_init_54 rfl rfl rfl (by decide) rfl (by decide) inA_X0 tyX0_ok nmX0 (by decide) (by decide +kernel) rfl fl_X0_33 rfl rfl rfl (by decide +kernel) (nar_arr _) (fun _ => rfl) rfl (fun G hc hX hRm hn => ?_)
  refine w_aload_n (q := 58) (i := 0) (j := 0) hc dX0_init_57 rfl rfl rfl ?_
  refine w_sipush (q := 61) hc dX0_init_58 cs_160 rfl ?_
  refine w_newA (q := 63) (code := 10) (N := 160) (atype := .int) (ty := .int) (t0 := 0) hc hX hRm hn dX0_init_61 rfl rfl (tb1 (List.mem_of_getElem? (i := 88) rfl) rfl) (fun _ h => by cases h) (fun _ => rfl) (cell_10 160) (by decide) (by decide +kernel) (Nat.le_of_ble_eq_true rfl) (hzI 28 (by decide)) (hzL 28 (by decide)) (by decide) (rp_ne rfl (by decide)) (Nat.le_of_ble_eq_true rfl) (Nat.le_of_ble_eq_true rfl) rfl rfl rfl (fun G hc hX hRm hn => ?_)
  refine w_putS (q := 66) (C := RX0) (T := TX0) (N := 8) (k := 7) (ty0 := tyX0) (ty := (.array .int)) hc hX hRm hn dX0_init_63 rfl rfl rfl (by decide) rfl (by decide) inA_X0 tyX0_ok nmX0 (by decide) (by decide +kernel) rfl fl_X0_36 rfl rfl rfl (by decide +kernel) (nar_arr _) (fun _ => rfl) rfl (fun G hc hX hRm hn => ?_)
  exact w_returnS hc hX dX0_init_66
set_option maxRecDepth 100000 in
set_option maxHeartbeats 4000000 in
theorem k_X1_30 {l : Launch} {I : MI} {L : ML} (hzI : ∀ p, 30 ≤ p → I p = fun _ => 0) (hzL : ∀ p, 30 ≤ p → L p = fun _ => 0) : MFs l yX1_init cX1_init 1 1 12 2 48 [.ref 30] K0 RL0 Rb0 31 28 33 30 I L (some (I, L)) := by
  refine mfs_of (plainFor_of_name (by decide)) rfl (Nat.le_of_ble_eq_true rfl) ?_
  intro G ad0 hc hX hRm hn
  show WW G 0 [(0, .ref 30)] [] I L _
  refine w_aload_n (q := 1) (i := 0) (j := 0) hc dX1_init_0 rfl rfl rfl ?_
  refine w_objI (q := 4) hc dX1_init_1 oi_X1 oi_inst oi_code (Nat.le_of_ble_eq_true rfl) (Nat.le_of_ble_eq_true rfl) rfl ?_
  refine w_aload_n (q := 5) (i := 0) (j := 0) hc dX1_init_4 rfl rfl rfl ?_
  refine w_bipush (q := 7) hc dX1_init_5 cb_32 rfl ?_
  refine w_newA (q := 9) (code := 10) (N := 32) (atype := .int) (ty := .int) (t0 := 0) hc hX hRm hn dX1_init_7 rfl rfl (tb1 (List.mem_of_getElem? (i := 88) rfl) rfl) (fun _ h => by cases h) (fun _ => rfl) (cell_10 32) (by decide) (by decide +kernel) (Nat.le_of_ble_eq_true rfl) (hzI 31 (by decide)) (hzL 31 (by decide)) (by decide) (rp_ne rfl (by decide)) (Nat.le_of_ble_eq_true rfl) (Nat.le_of_ble_eq_true rfl) rfl rfl rfl (fun G hc hX hRm hn => ?_)
  refine w_putS (q := 12) (C := RX1) (T := TX1) (N := 5) (k := 0) (ty0 := tyX1) (ty := (.array .int)) hc hX hRm hn dX1_init_9 rfl rfl rfl (by decide) rfl (by decide) inA_X1 tyX1_ok nmX1 (by decide) (by decide +kernel) rfl fl_X1_7 rfl rfl rfl (by decide +kernel) (nar_arr _) (fun _ => rfl) rfl (fun G hc hX hRm hn => ?_)
  refine w_aload_n (q := 13) (i := 0) (j := 0) hc dX1_init_12 rfl rfl rfl ?_
  refine w_bipush (q := 15) hc dX1_init_13 cb_16 rfl ?_
  refine w_newA (q := 17) (code := 11) (N := 16) (atype := .long) (ty := .long) (t0 := 1) hc hX hRm hn dX1_init_15 rfl rfl (tb1 (List.mem_of_getElem? (i := 87) rfl) rfl) (fun _ h => by cases h) (fun _ => rfl) (cell_11 16) (by decide) (by decide +kernel) (Nat.le_of_ble_eq_true rfl) (hzI 32 (by decide)) (hzL 32 (by decide)) (by decide) (rp_ne rfl (by decide)) (Nat.le_of_ble_eq_true rfl) (Nat.le_of_ble_eq_true rfl) rfl rfl rfl (fun G hc hX hRm hn => ?_)
  refine w_putS (q := 20) (C := RX1) (T := TX1) (N := 5) (k := 1) (ty0 := tyX1) (ty := (.array .long)) hc hX hRm hn dX1_init_17 rfl rfl rfl (by decide) rfl (by decide) inA_X1 tyX1_ok nmX1 (by decide) (by decide +kernel) rfl fl_X1_15 rfl rfl rfl (by decide +kernel) (nar_arr _) (fun _ => rfl) rfl (fun G hc hX hRm hn => ?_)
  refine w_aload_n (q := 21) (i := 0) (j := 0) hc dX1_init_20 rfl rfl rfl ?_
  refine w_iconst (q := 22) hc dX1_init_21 ci_0 rfl ?_
  refine w_put0 (q := 25) (C := RX1) (T := TX1) (N := 5) (k := 2) (ty0 := tyX1) (ty := .int) hc dX1_init_22 (kS hX (by decide) rfl) rfl (by decide) inA_X1 tyX1_ok nmX1 (by decide) (by decide +kernel) rfl fl_X1_19 rfl rfl (by decide +kernel) (by decide +kernel) (by decide +kernel) (hzI 30 (by decide)) rfl ?_
  refine w_aload_n (q := 26) (i := 0) (j := 0) hc dX1_init_25 rfl rfl rfl ?_
  refine w_iconst (q := 27) hc dX1_init_26 ci_0 rfl ?_
  refine w_put0 (q := 30) (C := RX1) (T := TX1) (N := 5) (k := 3) (ty0 := tyX1) (ty := .int) hc dX1_init_27 (kS hX (by decide) rfl) rfl (by decide) inA_X1 tyX1_ok nmX1 (by decide) (by decide +kernel) rfl fl_X1_23 rfl rfl (by decide +kernel) (by decide +kernel) (by decide +kernel) (hzI 30 (by decide)) rfl ?_
  refine w_aload_n (q := 31) (i := 0) (j := 0) hc dX1_init_30 rfl rfl rfl ?_
  refine w_iconst (q := 32) hc dX1_init_31 ci_0 rfl ?_
  refine w_put0 (q := 35) (C := RX1) (T := TX1) (N := 5) (k := 4) (ty0 := tyX1) (ty := .boolean) hc dX1_init_32 (kS hX (by decide) rfl) rfl (by decide) inA_X1 tyX1_ok nmX1 (by decide) (by decide +kernel) rfl fl_X1_26 rfl rfl (by decide +kernel) (by decide +kernel) (by decide +kernel) (hzI 30 (by decide)) rfl ?_
  exact w_returnS hc hX dX1_init_35
set_option maxRecDepth 100000 in
set_option maxHeartbeats 4000000 in
theorem k_X1_33 {l : Launch} {I : MI} {L : ML} (hzI : ∀ p, 33 ≤ p → I p = fun _ => 0) (hzL : ∀ p, 33 ≤ p → L p = fun _ => 0) : MFs l yX1_init cX1_init 1 1 12 2 48 [.ref 33] K0 RL0 Rb0 34 31 36 33 I L (some (I, L)) := by
  refine mfs_of (plainFor_of_name (by decide)) rfl (Nat.le_of_ble_eq_true rfl) ?_
  intro G ad0 hc hX hRm hn
  show WW G 0 [(0, .ref 33)] [] I L _
  refine w_aload_n (q := 1) (i := 0) (j := 0) hc dX1_init_0 rfl rfl rfl ?_
  refine w_objI (q := 4) hc dX1_init_1 oi_X1 oi_inst oi_code (Nat.le_of_ble_eq_true rfl) (Nat.le_of_ble_eq_true rfl) rfl ?_
  refine w_aload_n (q := 5) (i := 0) (j := 0) hc dX1_init_4 rfl rfl rfl ?_
  refine w_bipush (q := 7) hc dX1_init_5 cb_32 rfl ?_
  refine w_newA (q := 9) (code := 10) (N := 32) (atype := .int) (ty := .int) (t0 := 0) hc hX hRm hn dX1_init_7 rfl rfl (tb1 (List.mem_of_getElem? (i := 88) rfl) rfl) (fun _ h => by cases h) (fun _ => rfl) (cell_10 32) (by decide) (by decide +kernel) (Nat.le_of_ble_eq_true rfl) (hzI 34 (by decide)) (hzL 34 (by decide)) (by decide) (rp_ne rfl (by decide)) (Nat.le_of_ble_eq_true rfl) (Nat.le_of_ble_eq_true rfl) rfl rfl rfl (fun G hc hX hRm hn => ?_)
  refine w_putS (q := 12) (C := RX1) (T := TX1) (N := 5) (k := 0) (ty0 := tyX1) (ty := (.array .int)) hc hX hRm hn dX1_init_9 rfl rfl rfl (by decide) rfl (by decide) inA_X1 tyX1_ok nmX1 (by decide) (by decide +kernel) rfl fl_X1_7 rfl rfl rfl (by decide +kernel) (nar_arr _) (fun _ => rfl) rfl (fun G hc hX hRm hn => ?_)
  refine w_aload_n (q := 13) (i := 0) (j := 0) hc dX1_init_12 rfl rfl rfl ?_
  refine w_bipush (q := 15) hc dX1_init_13 cb_16 rfl ?_
  refine w_newA (q := 17) (code := 11) (N := 16) (atype := .long) (ty := .long) (t0 := 1) hc hX hRm hn dX1_init_15 rfl rfl (tb1 (List.mem_of_getElem? (i := 87) rfl) rfl) (fun _ h => by cases h) (fun _ => rfl) (cell_11 16) (by decide) (by decide +kernel) (Nat.le_of_ble_eq_true rfl) (hzI 35 (by decide)) (hzL 35 (by decide)) (by decide) (rp_ne rfl (by decide)) (Nat.le_of_ble_eq_true rfl) (Nat.le_of_ble_eq_true rfl) rfl rfl rfl (fun G hc hX hRm hn => ?_)
  refine w_putS (q := 20) (C := RX1) (T := TX1) (N := 5) (k := 1) (ty0 := tyX1) (ty := (.array .long)) hc hX hRm hn dX1_init_17 rfl rfl rfl (by decide) rfl (by decide) inA_X1 tyX1_ok nmX1 (by decide) (by decide +kernel) rfl fl_X1_15 rfl rfl rfl (by decide +kernel) (nar_arr _) (fun _ => rfl) rfl (fun G hc hX hRm hn => ?_)
  refine w_aload_n (q := 21) (i := 0) (j := 0) hc dX1_init_20 rfl rfl rfl ?_
  refine w_iconst (q := 22) hc dX1_init_21 ci_0 rfl ?_
  refine w_put0 (q := 25) (C := RX1) (T := TX1) (N := 5) (k := 2) (ty0 := tyX1) (ty := .int) hc dX1_init_22 (kS hX (by decide) rfl) rfl (by decide) inA_X1 tyX1_ok nmX1 (by decide) (by decide +kernel) rfl fl_X1_19 rfl rfl (by decide +kernel) (by decide +kernel) (by decide +kernel) (hzI 33 (by decide)) rfl ?_
  refine w_aload_n (q := 26) (i := 0) (j := 0) hc dX1_init_25 rfl rfl rfl ?_
  refine w_iconst (q := 27) hc dX1_init_26 ci_0 rfl ?_
  refine w_put0 (q := 30) (C := RX1) (T := TX1) (N := 5) (k := 3) (ty0 := tyX1) (ty := .int) hc dX1_init_27 (kS hX (by decide) rfl) rfl (by decide) inA_X1 tyX1_ok nmX1 (by decide) (by decide +kernel) rfl fl_X1_23 rfl rfl (by decide +kernel) (by decide +kernel) (by decide +kernel) (hzI 33 (by decide)) rfl ?_
  refine w_aload_n (q := 31) (i := 0) (j := 0) hc dX1_init_30 rfl rfl rfl ?_
  refine w_iconst (q := 32) hc dX1_init_31 ci_0 rfl ?_
  refine w_put0 (q := 35) (C := RX1) (T := TX1) (N := 5) (k := 4) (ty0 := tyX1) (ty := .boolean) hc dX1_init_32 (kS hX (by decide) rfl) rfl (by decide) inA_X1 tyX1_ok nmX1 (by decide) (by decide +kernel) rfl fl_X1_26 rfl rfl (by decide +kernel) (by decide +kernel) (by decide +kernel) (hzI 33 (by decide)) rfl ?_
  exact w_returnS hc hX dX1_init_35
set_option maxRecDepth 100000 in
set_option maxHeartbeats 4000000 in
theorem k_X2_6 {l : Launch} {I : MI} {L : ML} (hzI : ∀ p, 6 ≤ p → I p = fun _ => 0) (hzL : ∀ p, 6 ≤ p → L p = fun _ => 0) : MFs l yX2_init cX2_init 1 2 32 30 2196 [.ref 6] K0 RL0 Rb0 7 5 37 35 I L (some (I, L)) := by
  refine mfs_of (plainFor_of_name (by decide)) rfl (Nat.le_of_ble_eq_true rfl) ?_
  intro G ad0 hc hX hRm hn
  show WW G 0 [(0, .ref 6)] [] I L _
  refine w_aload_n (q := 1) (i := 0) (j := 0) hc dX2_init_0 rfl rfl rfl ?_
  refine w_objI (q := 4) hc dX2_init_1 oi_X2 oi_inst oi_code (Nat.le_of_ble_eq_true rfl) (Nat.le_of_ble_eq_true rfl) rfl ?_
  refine w_aload_n (q := 5) (i := 0) (j := 0) hc dX2_init_4 rfl rfl rfl ?_
  refine w_iconst (q := 6) hc dX2_init_5 ci_0 rfl ?_
  refine w_put0 (q := 9) (C := RX2) (T := TX2) (N := 13) (k := 0) (ty0 := tyX2) (ty := .int) hc dX2_init_6 (kS hX (by decide) rfl) rfl (by decide) inA_X2 tyX2_ok nmX2 (by decide) (by decide +kernel) rfl fl_X2_9 rfl rfl (by decide +kernel) (by decide +kernel) (by decide +kernel) (hzI 6 (by decide)) rfl ?_
  refine w_aload_n (q := 10) (i := 0) (j := 0) hc dX2_init_9 rfl rfl rfl ?_
  refine w_iconst (q := 11) hc dX2_init_10 ci_0 rfl ?_
  refine w_put0 (q := 14) (C := RX2) (T := TX2) (N := 13) (k := 1) (ty0 := tyX2) (ty := .int) hc dX2_init_11 (kS hX (by decide) rfl) rfl (by decide) inA_X2 tyX2_ok nmX2 (by decide) (by decide +kernel) rfl fl_X2_15 rfl rfl (by decide +kernel) (by decide +kernel) (by decide +kernel) (hzI 6 (by decide)) rfl ?_
  refine w_aload_n (q := 15) (i := 0) (j := 0) hc dX2_init_14 rfl rfl rfl ?_
  refine w_bipush (q := 17) hc dX2_init_15 cb_6 rfl ?_
  refine w_newA (q := 19) (code := 11) (N := 6) (atype := .long) (ty := .long) (t0 := 1) hc hX hRm hn dX2_init_17 rfl rfl (tb1 (List.mem_of_getElem? (i := 87) rfl) rfl) (fun _ h => by cases h) (fun _ => rfl) (cell_11 6) (by decide) (by decide +kernel) (Nat.le_of_ble_eq_true rfl) (hzI 7 (by decide)) (hzL 7 (by decide)) (by decide) (rp_ne rfl (by decide)) (Nat.le_of_ble_eq_true rfl) (Nat.le_of_ble_eq_true rfl) rfl rfl rfl (fun G hc hX hRm hn => ?_)
  refine w_putS (q := 22) (C := RX2) (T := TX2) (N := 13) (k := 2) (ty0 := tyX2) (ty := (.array .long)) hc hX hRm hn dX2_init_19 rfl rfl rfl (by decide) rfl (by decide) inA_X2 tyX2_ok nmX2 (by decide) (by decide +kernel) rfl fl_X2_18 rfl rfl rfl (by decide +kernel) (nar_arr _) (fun _ => rfl) rfl (fun G hc hX hRm hn => ?_)
  refine w_aload_n (q := 23) (i := 0) (j := 0) hc dX2_init_22 rfl rfl rfl ?_
  refine w_newO (q := 26) (C := RX0) (T := TX0) (N := 8) (ty := tyX0) hc hX hRm hn dX2_init_23 rfl (by decide) rfl rfl inA_X0 tyX0_ok (by decide +kernel) (tb1 (List.mem_of_getElem? (i := 95) rfl) rfl) (tb1 (List.mem_of_getElem? (i := 96) rfl) rfl) (tb1 (List.mem_of_getElem? (i := 4) rfl) rfl) (hzI 8 (by decide)) (hzL 8 (by decide)) (rp_none rfl (by decide)) (by decide) (rp_ne rfl (by decide)) (Nat.le_of_ble_eq_true rfl) (Nat.le_of_ble_eq_true rfl) rfl rfl rfl (fun G hc hX hRm hn => ?_)
  refine w_dup_ref (q := 27) hc dX2_init_26 rfl ?_
  refine w_callC (q := 30) (st := [.ref 8, .ref 6]) (F := some (I, L)) (X' := fun _ => some (I, L)) (n := 9) (m := 6) (n' := 15) (m' := 12) (c := 2) (s := 14) hc hX hRm hn (k_X0_8 (fun p hp => hzI p (by omega)) (fun p hp => hzL p (by omega))) dX2_init_27 hc.2.2.2.2.2.2.2.2.2.2.1.2.2.2.2.1 cf_X0_init im_X0_init rfl (Nat.le_of_ble_eq_true rfl) ⟨Nat.le_of_ble_eq_true rfl, Nat.le_of_ble_eq_true rfl⟩ (Nat.le_of_ble_eq_true rfl) (Nat.le_of_ble_eq_true rfl) (by decide) rfl rfl rfl (fun x hF G hc hX hRm hn => ?_)
  cases hF
  show WW G 30 [(0, .ref 6)] [.ref 8, .ref 6] I L _
  refine w_putS (q := 33) (C := RX2) (T := TX2) (N := 13) (k := 3) (ty0 := tyX2) (ty := (.object "MoveGroups$Chain")) hc hX hRm hn dX2_init_30 rfl rfl rfl (by decide) rfl (by decide) inA_X2 tyX2_ok nmX2 (by decide) (by decide +kernel) rfl fl_X2_25 rfl rfl rfl (by decide +kernel) (nar_obj _) (fun _ => rfl) rfl (fun G hc hX hRm hn => ?_)
  refine w_aload_n (q := 34) (i := 0) (j := 0) hc dX2_init_33 rfl rfl rfl ?_
  refine w_iconst (q := 35) hc dX2_init_34 ci_0 rfl ?_
  refine w_put0 (q := 38) (C := RX2) (T := TX2) (N := 13) (k := 4) (ty0 := tyX2) (ty := .int) hc dX2_init_35 (kS hX (by decide) rfl) rfl (by decide) inA_X2 tyX2_ok nmX2 (by decide) (by decide +kernel) rfl fl_X2_29 rfl rfl (by decide +kernel) (by decide +kernel) (by decide +kernel) (hzI 6 (by decide)) rfl ?_
  refine w_aload_n (q := 39) (i := 0) (j := 0) hc dX2_init_38 rfl rfl rfl ?_
  refine w_newO (q := 42) (C := RX0) (T := TX0) (N := 8) (ty := tyX0) hc hX hRm hn dX2_init_39 rfl (by decide) rfl rfl inA_X0 tyX0_ok (by decide +kernel) (tb1 (List.mem_of_getElem? (i := 95) rfl) rfl) (tb1 (List.mem_of_getElem? (i := 96) rfl) rfl) (tb1 (List.mem_of_getElem? (i := 4) rfl) rfl) (hzI 15 (by decide)) (hzL 15 (by decide)) (rp_none rfl (by decide)) (by decide) (rp_ne rfl (by decide)) (Nat.le_of_ble_eq_true rfl) (Nat.le_of_ble_eq_true rfl) rfl rfl rfl (fun G hc hX hRm hn => ?_)
  refine w_dup_ref (q := 43) hc dX2_init_42 rfl ?_
  refine w_callC (q := 46) (st := [.ref 15, .ref 6]) (F := some (I, L)) (X' := fun _ => some (I, L)) (n := 16) (m := 13) (n' := 22) (m' := 19) (c := 9) (s := 682) hc hX hRm hn (k_X0_15 (fun p hp => hzI p (by omega)) (fun p hp => hzL p (by omega))) dX2_init_43 hc.2.2.2.2.2.2.2.2.2.2.1.2.2.2.2.1 cf_X0_init im_X0_init rfl (Nat.le_of_ble_eq_true rfl) ⟨Nat.le_of_ble_eq_true rfl, Nat.le_of_ble_eq_true rfl⟩ (Nat.le_of_ble_eq_true rfl) (Nat.le_of_ble_eq_true rfl) (by decide) rfl rfl rfl (fun x hF G hc hX hRm hn => ?_)
  cases hF
  show WW G 46 [(0, .ref 6)] [.ref 15, .ref 6] I L _
  refine w_putS (q := 49) (C := RX2) (T := TX2) (N := 13) (k := 5) (ty0 := tyX2) (ty := (.object "MoveGroups$Chain")) hc hX hRm hn dX2_init_46 rfl rfl rfl (by decide) rfl (by decide) inA_X2 tyX2_ok nmX2 (by decide) (by decide +kernel) rfl fl_X2_32 rfl rfl rfl (by decide +kernel) (nar_obj _) (fun _ => rfl) rfl (fun G hc hX hRm hn => ?_)
  refine w_aload_n (q := 50) (i := 0) (j := 0) hc dX2_init_49 rfl rfl rfl ?_
  refine w_newO (q := 53) (C := RX0) (T := TX0) (N := 8) (ty := tyX0) hc hX hRm hn dX2_init_50 rfl (by decide) rfl rfl inA_X0 tyX0_ok (by decide +kernel) (tb1 (List.mem_of_getElem? (i := 95) rfl) rfl) (tb1 (List.mem_of_getElem? (i := 96) rfl) rfl) (tb1 (List.mem_of_getElem? (i := 4) rfl) rfl) (hzI 22 (by decide)) (hzL 22 (by decide)) (rp_none rfl (by decide)) (by decide) (rp_ne rfl (by decide)) (Nat.le_of_ble_eq_true rfl) (Nat.le_of_ble_eq_true rfl) rfl rfl rfl (fun G hc hX hRm hn => ?_)
  refine w_dup_ref (q := 54) hc dX2_init_53 rfl ?_
  refine w_callC (q := 57) (st := [.ref 22, .ref 6]) (F := some (I, L)) (X' := fun _ => some (I, L)) (n := 23) (m := 20) (n' := 29) (m' := 26) (c := 16) (s := 1350) hc hX hRm hn (k_X0_22 (fun p hp => hzI p (by omega)) (fun p hp => hzL p (by omega))) dX2_init_54 hc.2.2.2.2.2.2.2.2.2.2.1.2.2.2.2.1 cf_X0_init im_X0_init rfl (Nat.le_of_ble_eq_true rfl) ⟨Nat.le_of_ble_eq_true rfl, Nat.le_of_ble_eq_true rfl⟩ (Nat.le_of_ble_eq_true rfl) (Nat.le_of_ble_eq_true rfl) (by decide) rfl rfl rfl (fun x hF G hc hX hRm hn => ?_)
  cases hF
  show WW G 57 [(0, .ref 6)] [.ref 22, .ref 6] I L _
  refine w_putS (q := 60) (C := RX2) (T := TX2) (N := 13) (k := 6) (ty0 := tyX2) (ty := (.object "MoveGroups$Chain")) hc hX hRm hn dX2_init_57 rfl rfl rfl (by decide) rfl (by decide) inA_X2 tyX2_ok nmX2 (by decide) (by decide +kernel) rfl fl_X2_35 rfl rfl rfl (by decide +kernel) (nar_obj _) (fun _ => rfl) rfl (fun G hc hX hRm hn => ?_)
  refine w_aload_n (q := 61) (i := 0) (j := 0) hc dX2_init_60 rfl rfl rfl ?_
  refine w_bipush (q := 63) hc dX2_init_61 cb_64 rfl ?_
  refine w_newA (q := 65) (code := 10) (N := 64) (atype := .int) (ty := .int) (t0 := 0) hc hX hRm hn dX2_init_63 rfl rfl (tb1 (List.mem_of_getElem? (i := 88) rfl) rfl) (fun _ h => by cases h) (fun _ => rfl) (cell_10 64) (by decide) (by decide +kernel) (Nat.le_of_ble_eq_true rfl) (hzI 29 (by decide)) (hzL 29 (by decide)) (by decide) (rp_ne rfl (by decide)) (Nat.le_of_ble_eq_true rfl) (Nat.le_of_ble_eq_true rfl) rfl rfl rfl (fun G hc hX hRm hn => ?_)
  refine w_putS (q := 68) (C := RX2) (T := TX2) (N := 13) (k := 7) (ty0 := tyX2) (ty := (.array .int)) hc hX hRm hn dX2_init_65 rfl rfl rfl (by decide) rfl (by decide) inA_X2 tyX2_ok nmX2 (by decide) (by decide +kernel) rfl fl_X2_38 rfl rfl rfl (by decide +kernel) (nar_arr _) (fun _ => rfl) rfl (fun G hc hX hRm hn => ?_)
  refine w_aload_n (q := 69) (i := 0) (j := 0) hc dX2_init_68 rfl rfl rfl ?_
  refine w_newO (q := 72) (C := RX1) (T := TX1) (N := 5) (ty := tyX1) hc hX hRm hn dX2_init_69 rfl (by decide) rfl rfl inA_X1 tyX1_ok (by decide +kernel) (tb1 (List.mem_of_getElem? (i := 127) rfl) rfl) (tb1 (List.mem_of_getElem? (i := 128) rfl) rfl) (tb1 (List.mem_of_getElem? (i := 5) rfl) rfl) (hzI 30 (by decide)) (hzL 30 (by decide)) (rp_none rfl (by decide)) (by decide) (rp_ne rfl (by decide)) (Nat.le_of_ble_eq_true rfl) (Nat.le_of_ble_eq_true rfl) rfl rfl rfl (fun G hc hX hRm hn => ?_)
  refine w_dup_ref (q := 73) hc dX2_init_72 rfl ?_
  refine w_callC (q := 76) (st := [.ref 30, .ref 6]) (F := some (I, L)) (X' := fun _ => some (I, L)) (n := 31) (m := 28) (n' := 33) (m' := 30) (c := 24) (s := 2079) hc hX hRm hn (k_X1_30 (fun p hp => hzI p (by omega)) (fun p hp => hzL p (by omega))) dX2_init_73 hc.2.2.2.2.2.2.2.2.2.2.1.2.2.2.2.2 cf_X1_init im_X1_init rfl (Nat.le_of_ble_eq_true rfl) ⟨Nat.le_of_ble_eq_true rfl, Nat.le_of_ble_eq_true rfl⟩ (Nat.le_of_ble_eq_true rfl) (Nat.le_of_ble_eq_true rfl) (by decide) rfl rfl rfl (fun x hF G hc hX hRm hn => ?_)
  cases hF
  show WW G 76 [(0, .ref 6)] [.ref 30, .ref 6] I L _
  refine w_putS (q := 79) (C := RX2) (T := TX2) (N := 13) (k := 8) (ty0 := tyX2) (ty := (.object "MoveGroups$Descent")) hc hX hRm hn dX2_init_76 rfl rfl rfl (by decide) rfl (by decide) inA_X2 tyX2_ok nmX2 (by decide) (by decide +kernel) rfl fl_X2_45 rfl rfl rfl (by decide +kernel) (nar_obj _) (fun _ => rfl) rfl (fun G hc hX hRm hn => ?_)
  refine w_aload_n (q := 80) (i := 0) (j := 0) hc dX2_init_79 rfl rfl rfl ?_
  refine w_newO (q := 83) (C := RX1) (T := TX1) (N := 5) (ty := tyX1) hc hX hRm hn dX2_init_80 rfl (by decide) rfl rfl inA_X1 tyX1_ok (by decide +kernel) (tb1 (List.mem_of_getElem? (i := 127) rfl) rfl) (tb1 (List.mem_of_getElem? (i := 128) rfl) rfl) (tb1 (List.mem_of_getElem? (i := 5) rfl) rfl) (hzI 33 (by decide)) (hzL 33 (by decide)) (rp_none rfl (by decide)) (by decide) (rp_ne rfl (by decide)) (Nat.le_of_ble_eq_true rfl) (Nat.le_of_ble_eq_true rfl) rfl rfl rfl (fun G hc hX hRm hn => ?_)
  refine w_dup_ref (q := 84) hc dX2_init_83 rfl ?_
  refine w_callC (q := 87) (st := [.ref 33, .ref 6]) (F := some (I, L)) (X' := fun _ => some (I, L)) (n := 34) (m := 31) (n' := 36) (m' := 33) (c := 27) (s := 2132) hc hX hRm hn (k_X1_33 (fun p hp => hzI p (by omega)) (fun p hp => hzL p (by omega))) dX2_init_84 hc.2.2.2.2.2.2.2.2.2.2.1.2.2.2.2.2 cf_X1_init im_X1_init rfl (Nat.le_of_ble_eq_true rfl) ⟨Nat.le_of_ble_eq_true rfl, Nat.le_of_ble_eq_true rfl⟩ (Nat.le_of_ble_eq_true rfl) (Nat.le_of_ble_eq_true rfl) (by decide) rfl rfl rfl (fun x hF G hc hX hRm hn => ?_)
  cases hF
  show WW G 87 [(0, .ref 6)] [.ref 33, .ref 6] I L _
  refine w_putS (q := 90) (C := RX2) (T := TX2) (N := 13) (k := 9) (ty0 := tyX2) (ty := (.object "MoveGroups$Descent")) hc hX hRm hn dX2_init_87 rfl rfl rfl (by decide) rfl (by decide) inA_X2 tyX2_ok nmX2 (by decide) (by decide +kernel) rfl fl_X2_49 rfl rfl rfl (by decide +kernel) (nar_obj _) (fun _ => rfl) rfl (fun G hc hX hRm hn => ?_)
  refine w_aload_n (q := 91) (i := 0) (j := 0) hc dX2_init_90 rfl rfl rfl ?_
  refine w_null (q := 92) hc dX2_init_91 rfl ?_
  refine w_put0R (q := 95) (C := RX2) (T := TX2) (N := 13) (k := 10) (ty0 := tyX2) (ty := (.object "MoveGroups$Roster")) hc dX2_init_92 (kS hX (by decide) rfl) rfl (by decide) inA_X2 tyX2_ok nmX2 (by decide) (by decide +kernel) rfl fl_X2_52 rfl rfl (by decide +kernel) rfl rfl (by rw [hX.2.2.2.2.1]; rfl) rfl ?_
  refine w_aload_n (q := 96) (i := 0) (j := 0) hc dX2_init_95 rfl rfl rfl ?_
  refine w_iconst (q := 97) hc dX2_init_96 ci_0 rfl ?_
  refine w_put0 (q := 100) (C := RX2) (T := TX2) (N := 13) (k := 11) (ty0 := tyX2) (ty := .boolean) hc dX2_init_97 (kS hX (by decide) rfl) rfl (by decide) inA_X2 tyX2_ok nmX2 (by decide) (by decide +kernel) rfl fl_X2_56 rfl rfl (by decide +kernel) (by decide +kernel) (by decide +kernel) (hzI 6 (by decide)) rfl ?_
  refine w_aload_n (q := 101) (i := 0) (j := 0) hc dX2_init_100 rfl rfl rfl ?_
  refine w_bipush (q := 103) hc dX2_init_101 cb_16 rfl ?_
  refine w_newA (q := 105) (code := 10) (N := 16) (atype := .int) (ty := .int) (t0 := 0) hc hX hRm hn dX2_init_103 rfl rfl (tb1 (List.mem_of_getElem? (i := 88) rfl) rfl) (fun _ h => by cases h) (fun _ => rfl) (cell_10 16) (by decide) (by decide +kernel) (Nat.le_of_ble_eq_true rfl) (hzI 36 (by decide)) (hzL 36 (by decide)) (by decide) (rp_ne rfl (by decide)) (Nat.le_of_ble_eq_true rfl) (Nat.le_of_ble_eq_true rfl) rfl rfl rfl (fun G hc hX hRm hn => ?_)
  refine w_putS (q := 108) (C := RX2) (T := TX2) (N := 13) (k := 12) (ty0 := tyX2) (ty := (.array .int)) hc hX hRm hn dX2_init_105 rfl rfl rfl (by decide) rfl (by decide) inA_X2 tyX2_ok nmX2 (by decide) (by decide +kernel) rfl fl_X2_60 rfl rfl rfl (by decide +kernel) (nar_arr _) (fun _ => rfl) rfl (fun G hc hX hRm hn => ?_)
  exact w_returnS hc hX dX2_init_108
set_option maxRecDepth 100000 in
set_option maxHeartbeats 4000000 in
theorem k_X3_37 {l : Launch} {I : MI} {L : ML} (hzI : ∀ p, 37 ≤ p → I p = fun _ => 0) (hzL : ∀ p, 37 ≤ p → L p = fun _ => 0) : MFs l yX3_init cX3_init 1 1 12 4 102 [.ref 37] K0 RL0 Rb0 38 36 42 40 I L (some (I, L)) := by
  refine mfs_of (plainFor_of_name (by decide)) rfl (Nat.le_of_ble_eq_true rfl) ?_
  intro G ad0 hc hX hRm hn
  show WW G 0 [(0, .ref 37)] [] I L _
  refine w_aload_n (q := 1) (i := 0) (j := 0) hc dX3_init_0 rfl rfl rfl ?_
  refine w_objI (q := 4) hc dX3_init_1 oi_X3 oi_inst oi_code (Nat.le_of_ble_eq_true rfl) (Nat.le_of_ble_eq_true rfl) rfl ?_
  refine w_aload_n (q := 5) (i := 0) (j := 0) hc dX3_init_4 rfl rfl rfl ?_
  refine w_iconst (q := 6) hc dX3_init_5 ci_0 rfl ?_
  refine w_put0 (q := 9) (C := RX3) (T := TX3) (N := 7) (k := 0) (ty0 := tyX3) (ty := .int) hc dX3_init_6 (kS hX (by decide) rfl) rfl (by decide) inA_X3 tyX3_ok nmX3 (by decide) (by decide +kernel) rfl fl_X3_9 rfl rfl (by decide +kernel) (by decide +kernel) (by decide +kernel) (hzI 37 (by decide)) rfl ?_
  refine w_aload_n (q := 10) (i := 0) (j := 0) hc dX3_init_9 rfl rfl rfl ?_
  refine w_lconst (q := 11) hc dX3_init_10 cl_0 rfl ?_
  refine w_put0L (q := 14) (C := RX3) (T := TX3) (N := 7) (k := 1) (ty0 := tyX3) (ty := .long) hc dX3_init_11 (kS hX (by decide) rfl) rfl (by decide) inA_X3 tyX3_ok nmX3 (by decide) (by decide +kernel) rfl fl_X3_15 rfl rfl (by decide +kernel) (hzL 37 (by decide)) rfl ?_
  refine w_aload_n (q := 15) (i := 0) (j := 0) hc dX3_init_14 rfl rfl rfl ?_
  refine w_iconst (q := 16) hc dX3_init_15 ci_0 rfl ?_
  refine w_put0 (q := 19) (C := RX3) (T := TX3) (N := 7) (k := 2) (ty0 := tyX3) (ty := .int) hc dX3_init_16 (kS hX (by decide) rfl) rfl (by decide) inA_X3 tyX3_ok nmX3 (by decide) (by decide +kernel) rfl fl_X3_19 rfl rfl (by decide +kernel) (by decide +kernel) (by decide +kernel) (hzI 37 (by decide)) rfl ?_
  refine w_aload_n (q := 20) (i := 0) (j := 0) hc dX3_init_19 rfl rfl rfl ?_
  refine w_bipush (q := 22) hc dX3_init_20 cb_6 rfl ?_
  refine w_newA (q := 24) (code := 11) (N := 6) (atype := .long) (ty := .long) (t0 := 1) hc hX hRm hn dX3_init_22 rfl rfl (tb1 (List.mem_of_getElem? (i := 87) rfl) rfl) (fun _ h => by cases h) (fun _ => rfl) (cell_11 6) (by decide) (by decide +kernel) (Nat.le_of_ble_eq_true rfl) (hzI 38 (by decide)) (hzL 38 (by decide)) (by decide) (rp_ne rfl (by decide)) (Nat.le_of_ble_eq_true rfl) (Nat.le_of_ble_eq_true rfl) rfl rfl rfl (fun G hc hX hRm hn => ?_)
  refine w_putS (q := 27) (C := RX3) (T := TX3) (N := 7) (k := 3) (ty0 := tyX3) (ty := (.array .long)) hc hX hRm hn dX3_init_24 rfl rfl rfl (by decide) rfl (by decide) inA_X3 tyX3_ok nmX3 (by decide) (by decide +kernel) rfl fl_X3_22 rfl rfl rfl (by decide +kernel) (nar_arr _) (fun _ => rfl) rfl (fun G hc hX hRm hn => ?_)
  refine w_aload_n (q := 28) (i := 0) (j := 0) hc dX3_init_27 rfl rfl rfl ?_
  refine w_bipush (q := 30) hc dX3_init_28 cb_12 rfl ?_
  refine w_newA (q := 32) (code := 11) (N := 12) (atype := .long) (ty := .long) (t0 := 1) hc hX hRm hn dX3_init_30 rfl rfl (tb1 (List.mem_of_getElem? (i := 87) rfl) rfl) (fun _ h => by cases h) (fun _ => rfl) (cell_11 12) (by decide) (by decide +kernel) (Nat.le_of_ble_eq_true rfl) (hzI 39 (by decide)) (hzL 39 (by decide)) (by decide) (rp_ne rfl (by decide)) (Nat.le_of_ble_eq_true rfl) (Nat.le_of_ble_eq_true rfl) rfl rfl rfl (fun G hc hX hRm hn => ?_)
  refine w_putS (q := 35) (C := RX3) (T := TX3) (N := 7) (k := 4) (ty0 := tyX3) (ty := (.array .long)) hc hX hRm hn dX3_init_32 rfl rfl rfl (by decide) rfl (by decide) inA_X3 tyX3_ok nmX3 (by decide) (by decide +kernel) rfl fl_X3_26 rfl rfl rfl (by decide +kernel) (nar_arr _) (fun _ => rfl) rfl (fun G hc hX hRm hn => ?_)
  refine w_aload_n (q := 36) (i := 0) (j := 0) hc dX3_init_35 rfl rfl rfl ?_
  refine w_bipush (q := 38) hc dX3_init_36 cb_12 rfl ?_
  refine w_newA (q := 40) (code := 10) (N := 12) (atype := .int) (ty := .int) (t0 := 0) hc hX hRm hn dX3_init_38 rfl rfl (tb1 (List.mem_of_getElem? (i := 88) rfl) rfl) (fun _ h => by cases h) (fun _ => rfl) (cell_10 12) (by decide) (by decide +kernel) (Nat.le_of_ble_eq_true rfl) (hzI 40 (by decide)) (hzL 40 (by decide)) (by decide) (rp_ne rfl (by decide)) (Nat.le_of_ble_eq_true rfl) (Nat.le_of_ble_eq_true rfl) rfl rfl rfl (fun G hc hX hRm hn => ?_)
  refine w_putS (q := 43) (C := RX3) (T := TX3) (N := 7) (k := 5) (ty0 := tyX3) (ty := (.array .int)) hc hX hRm hn dX3_init_40 rfl rfl rfl (by decide) rfl (by decide) inA_X3 tyX3_ok nmX3 (by decide) (by decide +kernel) rfl fl_X3_29 rfl rfl rfl (by decide +kernel) (nar_arr _) (fun _ => rfl) rfl (fun G hc hX hRm hn => ?_)
  refine w_aload_n (q := 44) (i := 0) (j := 0) hc dX3_init_43 rfl rfl rfl ?_
  refine w_bipush (q := 46) hc dX3_init_44 cb_72 rfl ?_
  refine w_newA (q := 48) (code := 11) (N := 72) (atype := .long) (ty := .long) (t0 := 1) hc hX hRm hn dX3_init_46 rfl rfl (tb1 (List.mem_of_getElem? (i := 87) rfl) rfl) (fun _ h => by cases h) (fun _ => rfl) (cell_11 72) (by decide) (by decide +kernel) (Nat.le_of_ble_eq_true rfl) (hzI 41 (by decide)) (hzL 41 (by decide)) (by decide) (rp_ne rfl (by decide)) (Nat.le_of_ble_eq_true rfl) (Nat.le_of_ble_eq_true rfl) rfl rfl rfl (fun G hc hX hRm hn => ?_)
  refine w_putS (q := 51) (C := RX3) (T := TX3) (N := 7) (k := 6) (ty0 := tyX3) (ty := (.array .long)) hc hX hRm hn dX3_init_48 rfl rfl rfl (by decide) rfl (by decide) inA_X3 tyX3_ok nmX3 (by decide) (by decide +kernel) rfl fl_X3_33 rfl rfl rfl (by decide +kernel) (nar_arr _) (fun _ => rfl) rfl (fun G hc hX hRm hn => ?_)
  exact w_returnS hc hX dX3_init_51
set_option maxRecDepth 100000 in
set_option maxHeartbeats 4000000 in
theorem k_X7_0 {l : Launch} {I : MI} {L : ML} (hzI : ∀ p, 0 ≤ p → I p = fun _ => 0) (hzL : ∀ p, 0 ≤ p → L p = fun _ => 0) : MFs l yX7_init cX7_init 1 3 52 42 2784 [.ref 0] K0 RL0 Rb0 1 0 43 42 I L (some ((up2 (up2 I 1 14 (-1)) 1 15 (-1)), L)) := by
  refine mfs_of (plainFor_of_name (by decide)) rfl (Nat.le_of_ble_eq_true rfl) ?_
  intro G ad0 hc hX hRm hn
  show WW G 0 [(0, .ref 0)] [] I L _
  refine w_aload_n (q := 1) (i := 0) (j := 0) hc dX7_init_0 rfl rfl rfl ?_
  refine w_objI (q := 4) hc dX7_init_1 oi_X7 oi_inst oi_code (Nat.le_of_ble_eq_true rfl) (Nat.le_of_ble_eq_true rfl) rfl ?_
  refine w_aload_n (q := 5) (i := 0) (j := 0) hc dX7_init_4 rfl rfl rfl ?_
  refine w_newO (q := 8) (C := RX5) (T := TX5) (N := 16) (ty := tyX5) hc hX hRm hn dX7_init_5 rfl (by decide) rfl rfl inA_X5 tyX5_ok (by decide +kernel) (tb1 (List.mem_of_getElem? (i := 25) rfl) rfl) (tb1 (List.mem_of_getElem? (i := 26) rfl) rfl) (tb1 (List.mem_of_getElem? (i := 2) rfl) rfl) (hzI 1 (by decide)) (hzL 1 (by decide)) (rp_none rfl (by decide)) (by decide) (rp_ne rfl (by decide)) (Nat.le_of_ble_eq_true rfl) (Nat.le_of_ble_eq_true rfl) rfl rfl rfl (fun G hc hX hRm hn => ?_)
  refine w_dup_ref (q := 9) hc dX7_init_8 rfl ?_
  refine w_callC (q := 12) (st := [.ref 1, .ref 0]) (F := some ((up2 (up2 I 1 14 (-1)) 1 15 (-1)), L)) (X' := fun _ => some ((up2 (up2 I 1 14 (-1)) 1 15 (-1)), L)) (n := 2) (m := 0) (n' := 6) (m' := 4) (c := 1) (s := 16) hc hX hRm hn (k_X5_1 (fun p hp => hzI p (by omega)) (fun p hp => hzL p (by omega))) dX7_init_9 hc.2.2.2.2.2.2.2.2.2.2.1.2.1 cf_X5_init im_X5_init rfl (Nat.le_of_ble_eq_true rfl) ⟨Nat.le_of_ble_eq_true rfl, Nat.le_of_ble_eq_true rfl⟩ (Nat.le_of_ble_eq_true rfl) (Nat.le_of_ble_eq_true rfl) (by decide) rfl rfl rfl (fun x hF G hc hX hRm hn => ?_)
  cases hF
  show WW G 12 [(0, .ref 0)] [.ref 1, .ref 0] (up2 (up2 I 1 14 (-1)) 1 15 (-1)) L _
  refine w_putS (q := 15) (C := RX7) (T := TX7) (N := 7) (k := 0) (ty0 := tyX7) (ty := (.object "MoveGroups$Text")) hc hX hRm hn dX7_init_12 rfl rfl rfl (by decide) rfl (by decide) inA_X7 tyX7_ok nmX7 (by decide) (by decide +kernel) rfl fl_X7_10 rfl rfl rfl (by decide +kernel) (nar_obj _) (fun _ => rfl) rfl (fun G hc hX hRm hn => ?_)
  refine w_aload_n (q := 16) (i := 0) (j := 0) hc dX7_init_15 rfl rfl rfl ?_
  refine w_newO (q := 19) (C := RX2) (T := TX2) (N := 13) (ty := tyX2) hc hX hRm hn dX7_init_16 rfl (by decide) rfl rfl inA_X2 tyX2_ok (by decide +kernel) (tb1 (List.mem_of_getElem? (i := 89) rfl) rfl) (tb1 (List.mem_of_getElem? (i := 90) rfl) rfl) (tb1 (List.mem_of_getElem? (i := 3) rfl) rfl) ((up2_ne (by decide)).trans ((up2_ne (by decide)).trans (hzI 6 (by decide)))) (hzL 6 (by decide)) (rp_none rfl (by decide)) (by decide) (rp_ne rfl (by decide)) (Nat.le_of_ble_eq_true rfl) (Nat.le_of_ble_eq_true rfl) rfl rfl rfl (fun G hc hX hRm hn => ?_)
  refine w_dup_ref (q := 20) hc dX7_init_19 rfl ?_
  refine w_callC (q := 23) (st := [.ref 6, .ref 0]) (F := some ((up2 (up2 I 1 14 (-1)) 1 15 (-1)), L)) (X' := fun _ => some ((up2 (up2 I 1 14 (-1)) 1 15 (-1)), L)) (n := 7) (m := 5) (n' := 37) (m' := 35) (c := 6) (s := 447) hc hX hRm hn (k_X2_6 (fun p hp => (up2_ne (by omega)).trans ((up2_ne (by omega)).trans (hzI p (by omega)))) (fun p hp => hzL p (by omega))) dX7_init_20 hc.2.2.2.2.2.2.2.2.2.2.1.2.2.1 cf_X2_init im_X2_init rfl (Nat.le_of_ble_eq_true rfl) ⟨Nat.le_of_ble_eq_true rfl, Nat.le_of_ble_eq_true rfl⟩ (Nat.le_of_ble_eq_true rfl) (Nat.le_of_ble_eq_true rfl) (by decide) rfl rfl rfl (fun x hF G hc hX hRm hn => ?_)
  cases hF
  show WW G 23 [(0, .ref 0)] [.ref 6, .ref 0] (up2 (up2 I 1 14 (-1)) 1 15 (-1)) L _
  refine w_putS (q := 26) (C := RX7) (T := TX7) (N := 7) (k := 1) (ty0 := tyX7) (ty := (.object "MoveGroups$Group")) hc hX hRm hn dX7_init_23 rfl rfl rfl (by decide) rfl (by decide) inA_X7 tyX7_ok nmX7 (by decide) (by decide +kernel) rfl fl_X7_19 rfl rfl rfl (by decide +kernel) (nar_obj _) (fun _ => rfl) rfl (fun G hc hX hRm hn => ?_)
  refine w_aload_n (q := 27) (i := 0) (j := 0) hc dX7_init_26 rfl rfl rfl ?_
  refine w_newO (q := 30) (C := RX3) (T := TX3) (N := 7) (ty := tyX3) hc hX hRm hn dX7_init_27 rfl (by decide) rfl rfl inA_X3 tyX3_ok (by decide +kernel) (tb1 (List.mem_of_getElem? (i := 193) rfl) rfl) (tb1 (List.mem_of_getElem? (i := 194) rfl) rfl) (tb1 (List.mem_of_getElem? (i := 6) rfl) rfl) ((up2_ne (by decide)).trans ((up2_ne (by decide)).trans (hzI 37 (by decide)))) (hzL 37 (by decide)) (rp_none rfl (by decide)) (by decide) (rp_ne rfl (by decide)) (Nat.le_of_ble_eq_true rfl) (Nat.le_of_ble_eq_true rfl) rfl rfl rfl (fun G hc hX hRm hn => ?_)
  refine w_dup_ref (q := 31) hc dX7_init_30 rfl ?_
  refine w_callC (q := 34) (st := [.ref 37, .ref 0]) (F := some ((up2 (up2 I 1 14 (-1)) 1 15 (-1)), L)) (X' := fun _ => some ((up2 (up2 I 1 14 (-1)) 1 15 (-1)), L)) (n := 38) (m := 36) (n' := 42) (m' := 40) (c := 37) (s := 2650) hc hX hRm hn (k_X3_37 (fun p hp => (up2_ne (by omega)).trans ((up2_ne (by omega)).trans (hzI p (by omega)))) (fun p hp => hzL p (by omega))) dX7_init_31 hc.2.2.2.2.2.2.2.2.2.2.1.2.2.2.1 cf_X3_init im_X3_init rfl (Nat.le_of_ble_eq_true rfl) ⟨Nat.le_of_ble_eq_true rfl, Nat.le_of_ble_eq_true rfl⟩ (Nat.le_of_ble_eq_true rfl) (Nat.le_of_ble_eq_true rfl) (by decide) rfl rfl rfl (fun x hF G hc hX hRm hn => ?_)
  cases hF
  show WW G 34 [(0, .ref 0)] [.ref 37, .ref 0] (up2 (up2 I 1 14 (-1)) 1 15 (-1)) L _
  refine w_putS (q := 37) (C := RX7) (T := TX7) (N := 7) (k := 2) (ty0 := tyX7) (ty := (.object "MoveGroups$Past")) hc hX hRm hn dX7_init_34 rfl rfl rfl (by decide) rfl (by decide) inA_X7 tyX7_ok nmX7 (by decide) (by decide +kernel) rfl fl_X7_26 rfl rfl rfl (by decide +kernel) (nar_obj _) (fun _ => rfl) rfl (fun G hc hX hRm hn => ?_)
  refine w_aload_n (q := 38) (i := 0) (j := 0) hc dX7_init_37 rfl rfl rfl ?_
  refine w_bipush (q := 40) hc dX7_init_38 cb_32 rfl ?_
  refine w_newA (q := 42) (code := 12) (N := 32) (atype := .byte) (ty := .byte) (t0 := 2) hc hX hRm hn dX7_init_40 rfl rfl (tb1 (List.mem_of_getElem? (i := 86) rfl) rfl) (fun _ h => by cases h) (fun _ => rfl) (cell_12 32) (by decide) (by decide +kernel) (Nat.le_of_ble_eq_true rfl) ((up2_ne (by decide)).trans ((up2_ne (by decide)).trans (hzI 42 (by decide)))) (hzL 42 (by decide)) (by decide) (rp_ne rfl (by decide)) (Nat.le_of_ble_eq_true rfl) (Nat.le_of_ble_eq_true rfl) rfl rfl rfl (fun G hc hX hRm hn => ?_)
  refine w_putS (q := 45) (C := RX7) (T := TX7) (N := 7) (k := 3) (ty0 := tyX7) (ty := (.array .byte)) hc hX hRm hn dX7_init_42 rfl rfl rfl (by decide) rfl (by decide) inA_X7 tyX7_ok nmX7 (by decide) (by decide +kernel) rfl fl_X7_30 rfl rfl rfl (by decide +kernel) (nar_arr _) (fun _ => rfl) rfl (fun G hc hX hRm hn => ?_)
  refine w_aload_n (q := 46) (i := 0) (j := 0) hc dX7_init_45 rfl rfl rfl ?_
  refine w_iconst (q := 47) hc dX7_init_46 ci_0 rfl ?_
  refine w_put0 (q := 50) (C := RX7) (T := TX7) (N := 7) (k := 4) (ty0 := tyX7) (ty := .int) hc dX7_init_47 (kS hX (by decide) rfl) rfl (by decide) inA_X7 tyX7_ok nmX7 (by decide) (by decide +kernel) rfl fl_X7_34 rfl rfl (by decide +kernel) (by decide +kernel) (by decide +kernel) ((up2_ne (by decide)).trans ((up2_ne (by decide)).trans (hzI 0 (by decide)))) rfl ?_
  refine w_aload_n (q := 51) (i := 0) (j := 0) hc dX7_init_50 rfl rfl rfl ?_
  refine w_lconst (q := 52) hc dX7_init_51 cl_0 rfl ?_
  refine w_put0L (q := 55) (C := RX7) (T := TX7) (N := 7) (k := 5) (ty0 := tyX7) (ty := .long) hc dX7_init_52 (kS hX (by decide) rfl) rfl (by decide) inA_X7 tyX7_ok nmX7 (by decide) (by decide +kernel) rfl fl_X7_38 rfl rfl (by decide +kernel) (hzL 0 (by decide)) rfl ?_
  refine w_aload_n (q := 56) (i := 0) (j := 0) hc dX7_init_55 rfl rfl rfl ?_
  refine w_iconst (q := 57) hc dX7_init_56 ci_0 rfl ?_
  refine w_put0 (q := 60) (C := RX7) (T := TX7) (N := 7) (k := 6) (ty0 := tyX7) (ty := .int) hc dX7_init_57 (kS hX (by decide) rfl) rfl (by decide) inA_X7 tyX7_ok nmX7 (by decide) (by decide +kernel) rfl fl_X7_42 rfl rfl (by decide +kernel) (by decide +kernel) (by decide +kernel) ((up2_ne (by decide)).trans ((up2_ne (by decide)).trans (hzI 0 (by decide)))) rfl ?_
  exact w_returnS hc hX dX7_init_60
set_option maxRecDepth 100000 in
set_option maxHeartbeats 4000000 in
theorem k_X8_43 {l : Launch} {I : MI} {L : ML} (hzI : ∀ p, 43 ≤ p → I p = fun _ => 0) (hzL : ∀ p, 43 ≤ p → L p = fun _ => 0) : MFs l yX8_init cX8_init 1 1 24 25 71479 [.ref 43] K0 RL0 Rb0 44 42 69 67 I L (Option.bind (f_X8_isHome 46 (up2 (up2 I 43 31 (-1)) 43 32 (-1)) L) (fun q1 => Option.bind (f_X8_copies 46 10 0 44 71 1 q1.1 q1.2) (fun q2 => some (q2.1, q2.2)))) := by
  refine mfs_of (plainFor_of_name (by decide)) rfl (Nat.le_of_ble_eq_true rfl) ?_
  intro G ad0 hc hX hRm hn
  show WW G 0 [(0, .ref 43)] [] I L _
  refine w_aload_n (q := 1) (i := 0) (j := 0) hc dX8_init_0 rfl rfl rfl ?_
  refine w_objI (q := 4) hc dX8_init_1 oi_X8 oi_inst oi_code (Nat.le_of_ble_eq_true rfl) (Nat.le_of_ble_eq_true rfl) rfl ?_
  refine w_aload_n (q := 5) (i := 0) (j := 0) hc dX8_init_4 rfl rfl rfl ?_
  refine w_bipush (q := 7) hc dX8_init_5 cb_71 rfl ?_
  refine w_newA (q := 9) (code := 10) (N := 71) (atype := .int) (ty := .int) (t0 := 0) hc hX hRm hn dX8_init_7 rfl rfl (tb1 (List.mem_of_getElem? (i := 88) rfl) rfl) (fun _ h => by cases h) (fun _ => rfl) (cell_10 71) (by decide) (by decide +kernel) (Nat.le_of_ble_eq_true rfl) (hzI 44 (by decide)) (hzL 44 (by decide)) (by decide) (rp_ne rfl (by decide)) (Nat.le_of_ble_eq_true rfl) (Nat.le_of_ble_eq_true rfl) rfl rfl rfl (fun G hc hX hRm hn => ?_)
  refine w_putS (q := 12) (C := RX8) (T := TX8) (N := 45) (k := 4) (ty0 := tyX8) (ty := (.array .int)) hc hX hRm hn dX8_init_9 rfl rfl rfl (by decide) rfl (by decide) inA_X8 tyX8_ok nmX8 (by decide) (by decide +kernel) rfl fl_X8_7 rfl rfl rfl (by decide +kernel) (nar_arr _) (fun _ => rfl) rfl (fun G hc hX hRm hn => ?_)
  refine w_aload_n (q := 13) (i := 0) (j := 0) hc dX8_init_12 rfl rfl rfl ?_
  refine w_sipush (q := 16) hc dX8_init_13 cs_852 rfl ?_
  refine w_newA (q := 18) (code := 10) (N := 852) (atype := .int) (ty := .int) (t0 := 0) hc hX hRm hn dX8_init_16 rfl rfl (tb1 (List.mem_of_getElem? (i := 88) rfl) rfl) (fun _ h => by cases h) (fun _ => rfl) (cell_10 852) (by decide) (by decide +kernel) (Nat.le_of_ble_eq_true rfl) (hzI 45 (by decide)) (hzL 45 (by decide)) (by decide) (rp_ne rfl (by decide)) (Nat.le_of_ble_eq_true rfl) (Nat.le_of_ble_eq_true rfl) rfl rfl rfl (fun G hc hX hRm hn => ?_)
  refine w_putS (q := 21) (C := RX8) (T := TX8) (N := 45) (k := 5) (ty0 := tyX8) (ty := (.array .int)) hc hX hRm hn dX8_init_18 rfl rfl rfl (by decide) rfl (by decide) inA_X8 tyX8_ok nmX8 (by decide) (by decide +kernel) rfl fl_X8_13 rfl rfl rfl (by decide +kernel) (nar_arr _) (fun _ => rfl) rfl (fun G hc hX hRm hn => ?_)
  refine w_aload_n (q := 22) (i := 0) (j := 0) hc dX8_init_21 rfl rfl rfl ?_
  refine w_bipush (q := 24) hc dX8_init_22 cb_10 rfl ?_
  refine w_newA (q := 26) (code := 10) (N := 10) (atype := .int) (ty := .int) (t0 := 0) hc hX hRm hn dX8_init_24 rfl rfl (tb1 (List.mem_of_getElem? (i := 88) rfl) rfl) (fun _ h => by cases h) (fun _ => rfl) (cell_10 10) (by decide) (by decide +kernel) (Nat.le_of_ble_eq_true rfl) (hzI 46 (by decide)) (hzL 46 (by decide)) (by decide) (rp_ne rfl (by decide)) (Nat.le_of_ble_eq_true rfl) (Nat.le_of_ble_eq_true rfl) rfl rfl rfl (fun G hc hX hRm hn => ?_)
  refine w_putS (q := 29) (C := RX8) (T := TX8) (N := 45) (k := 6) (ty0 := tyX8) (ty := (.array .int)) hc hX hRm hn dX8_init_26 rfl rfl rfl (by decide) rfl (by decide) inA_X8 tyX8_ok nmX8 (by decide) (by decide +kernel) rfl fl_X8_16 rfl rfl rfl (by decide +kernel) (nar_arr _) (fun _ => rfl) rfl (fun G hc hX hRm hn => ?_)
  refine w_aload_n (q := 30) (i := 0) (j := 0) hc dX8_init_29 rfl rfl rfl ?_
  refine w_bipush (q := 32) hc dX8_init_30 cb_10 rfl ?_
  refine w_newA (q := 34) (code := 10) (N := 10) (atype := .int) (ty := .int) (t0 := 0) hc hX hRm hn dX8_init_32 rfl rfl (tb1 (List.mem_of_getElem? (i := 88) rfl) rfl) (fun _ h => by cases h) (fun _ => rfl) (cell_10 10) (by decide) (by decide +kernel) (Nat.le_of_ble_eq_true rfl) (hzI 47 (by decide)) (hzL 47 (by decide)) (by decide) (rp_ne rfl (by decide)) (Nat.le_of_ble_eq_true rfl) (Nat.le_of_ble_eq_true rfl) rfl rfl rfl (fun G hc hX hRm hn => ?_)
  refine w_putS (q := 37) (C := RX8) (T := TX8) (N := 45) (k := 7) (ty0 := tyX8) (ty := (.array .int)) hc hX hRm hn dX8_init_34 rfl rfl rfl (by decide) rfl (by decide) inA_X8 tyX8_ok nmX8 (by decide) (by decide +kernel) rfl fl_X8_19 rfl rfl rfl (by decide +kernel) (nar_arr _) (fun _ => rfl) rfl (fun G hc hX hRm hn => ?_)
  refine w_aload_n (q := 38) (i := 0) (j := 0) hc dX8_init_37 rfl rfl rfl ?_
  refine w_bipush (q := 40) hc dX8_init_38 cb_10 rfl ?_
  refine w_newA (q := 42) (code := 10) (N := 10) (atype := .int) (ty := .int) (t0 := 0) hc hX hRm hn dX8_init_40 rfl rfl (tb1 (List.mem_of_getElem? (i := 88) rfl) rfl) (fun _ h => by cases h) (fun _ => rfl) (cell_10 10) (by decide) (by decide +kernel) (Nat.le_of_ble_eq_true rfl) (hzI 48 (by decide)) (hzL 48 (by decide)) (by decide) (rp_ne rfl (by decide)) (Nat.le_of_ble_eq_true rfl) (Nat.le_of_ble_eq_true rfl) rfl rfl rfl (fun G hc hX hRm hn => ?_)
  refine w_putS (q := 45) (C := RX8) (T := TX8) (N := 45) (k := 8) (ty0 := tyX8) (ty := (.array .int)) hc hX hRm hn dX8_init_42 rfl rfl rfl (by decide) rfl (by decide) inA_X8 tyX8_ok nmX8 (by decide) (by decide +kernel) rfl fl_X8_22 rfl rfl rfl (by decide +kernel) (nar_arr _) (fun _ => rfl) rfl (fun G hc hX hRm hn => ?_)
  refine w_aload_n (q := 46) (i := 0) (j := 0) hc dX8_init_45 rfl rfl rfl ?_
  refine w_bipush (q := 48) hc dX8_init_46 cb_10 rfl ?_
  refine w_newA (q := 50) (code := 10) (N := 10) (atype := .int) (ty := .int) (t0 := 0) hc hX hRm hn dX8_init_48 rfl rfl (tb1 (List.mem_of_getElem? (i := 88) rfl) rfl) (fun _ h => by cases h) (fun _ => rfl) (cell_10 10) (by decide) (by decide +kernel) (Nat.le_of_ble_eq_true rfl) (hzI 49 (by decide)) (hzL 49 (by decide)) (by decide) (rp_ne rfl (by decide)) (Nat.le_of_ble_eq_true rfl) (Nat.le_of_ble_eq_true rfl) rfl rfl rfl (fun G hc hX hRm hn => ?_)
  refine w_putS (q := 53) (C := RX8) (T := TX8) (N := 45) (k := 9) (ty0 := tyX8) (ty := (.array .int)) hc hX hRm hn dX8_init_50 rfl rfl rfl (by decide) rfl (by decide) inA_X8 tyX8_ok nmX8 (by decide) (by decide +kernel) rfl fl_X8_25 rfl rfl rfl (by decide +kernel) (nar_arr _) (fun _ => rfl) rfl (fun G hc hX hRm hn => ?_)
  refine w_aload_n (q := 54) (i := 0) (j := 0) hc dX8_init_53 rfl rfl rfl ?_
  refine w_bipush (q := 56) hc dX8_init_54 cb_10 rfl ?_
  refine w_newA (q := 58) (code := 10) (N := 10) (atype := .int) (ty := .int) (t0 := 0) hc hX hRm hn dX8_init_56 rfl rfl (tb1 (List.mem_of_getElem? (i := 88) rfl) rfl) (fun _ h => by cases h) (fun _ => rfl) (cell_10 10) (by decide) (by decide +kernel) (Nat.le_of_ble_eq_true rfl) (hzI 50 (by decide)) (hzL 50 (by decide)) (by decide) (rp_ne rfl (by decide)) (Nat.le_of_ble_eq_true rfl) (Nat.le_of_ble_eq_true rfl) rfl rfl rfl (fun G hc hX hRm hn => ?_)
  refine w_putS (q := 61) (C := RX8) (T := TX8) (N := 45) (k := 10) (ty0 := tyX8) (ty := (.array .int)) hc hX hRm hn dX8_init_58 rfl rfl rfl (by decide) rfl (by decide) inA_X8 tyX8_ok nmX8 (by decide) (by decide +kernel) rfl fl_X8_28 rfl rfl rfl (by decide +kernel) (nar_arr _) (fun _ => rfl) rfl (fun G hc hX hRm hn => ?_)
  refine w_aload_n (q := 62) (i := 0) (j := 0) hc dX8_init_61 rfl rfl rfl ?_
  refine w_bipush (q := 64) hc dX8_init_62 cb_10 rfl ?_
  refine w_newA (q := 66) (code := 10) (N := 10) (atype := .int) (ty := .int) (t0 := 0) hc hX hRm hn dX8_init_64 rfl rfl (tb1 (List.mem_of_getElem? (i := 88) rfl) rfl) (fun _ h => by cases h) (fun _ => rfl) (cell_10 10) (by decide) (by decide +kernel) (Nat.le_of_ble_eq_true rfl) (hzI 51 (by decide)) (hzL 51 (by decide)) (by decide) (rp_ne rfl (by decide)) (Nat.le_of_ble_eq_true rfl) (Nat.le_of_ble_eq_true rfl) rfl rfl rfl (fun G hc hX hRm hn => ?_)
  refine w_putS (q := 69) (C := RX8) (T := TX8) (N := 45) (k := 11) (ty0 := tyX8) (ty := (.array .int)) hc hX hRm hn dX8_init_66 rfl rfl rfl (by decide) rfl (by decide) inA_X8 tyX8_ok nmX8 (by decide) (by decide +kernel) rfl fl_X8_31 rfl rfl rfl (by decide +kernel) (nar_arr _) (fun _ => rfl) rfl (fun G hc hX hRm hn => ?_)
  refine w_aload_n (q := 70) (i := 0) (j := 0) hc dX8_init_69 rfl rfl rfl ?_
  refine w_sipush (q := 73) hc dX8_init_70 cs_400 rfl ?_
  refine w_newA (q := 75) (code := 13) (N := 400) (atype := .boolean) (ty := .boolean) (t0 := 3) hc hX hRm hn dX8_init_73 rfl rfl (tb6 (List.mem_of_getElem? (i := 191) rfl) rfl) (fun _ h => by cases h) (fun _ => rfl) (cell_13 400) (by decide) (by decide +kernel) (Nat.le_of_ble_eq_true rfl) (hzI 52 (by decide)) (hzL 52 (by decide)) (by decide) (rp_ne rfl (by decide)) (Nat.le_of_ble_eq_true rfl) (Nat.le_of_ble_eq_true rfl) rfl rfl rfl (fun G hc hX hRm hn => ?_)
  refine w_putS (q := 78) (C := RX8) (T := TX8) (N := 45) (k := 12) (ty0 := tyX8) (ty := (.array .boolean)) hc hX hRm hn dX8_init_75 rfl rfl rfl (by decide) rfl (by decide) inA_X8 tyX8_ok nmX8 (by decide) (by decide +kernel) rfl fl_X8_34 rfl rfl rfl (by decide +kernel) (nar_arr _) (fun _ => rfl) rfl (fun G hc hX hRm hn => ?_)
  refine w_aload_n (q := 79) (i := 0) (j := 0) hc dX8_init_78 rfl rfl rfl ?_
  refine w_sipush (q := 82) hc dX8_init_79 cs_4000 rfl ?_
  refine w_newA (q := 84) (code := 10) (N := 4000) (atype := .int) (ty := .int) (t0 := 0) hc hX hRm hn dX8_init_82 rfl rfl (tb1 (List.mem_of_getElem? (i := 88) rfl) rfl) (fun _ h => by cases h) (fun _ => rfl) (cell_10 4000) (by decide) (by decide +kernel) (Nat.le_of_ble_eq_true rfl) (hzI 53 (by decide)) (hzL 53 (by decide)) (by decide) (rp_ne rfl (by decide)) (Nat.le_of_ble_eq_true rfl) (Nat.le_of_ble_eq_true rfl) rfl rfl rfl (fun G hc hX hRm hn => ?_)
  refine w_putS (q := 87) (C := RX8) (T := TX8) (N := 45) (k := 13) (ty0 := tyX8) (ty := (.array .int)) hc hX hRm hn dX8_init_84 rfl rfl rfl (by decide) rfl (by decide) inA_X8 tyX8_ok nmX8 (by decide) (by decide +kernel) rfl fl_X8_38 rfl rfl rfl (by decide +kernel) (nar_arr _) (fun _ => rfl) rfl (fun G hc hX hRm hn => ?_)
  refine w_aload_n (q := 88) (i := 0) (j := 0) hc dX8_init_87 rfl rfl rfl ?_
  refine w_bipush (q := 90) hc dX8_init_88 cb_10 rfl ?_
  refine w_newA (q := 92) (code := 10) (N := 10) (atype := .int) (ty := .int) (t0 := 0) hc hX hRm hn dX8_init_90 rfl rfl (tb1 (List.mem_of_getElem? (i := 88) rfl) rfl) (fun _ h => by cases h) (fun _ => rfl) (cell_10 10) (by decide) (by decide +kernel) (Nat.le_of_ble_eq_true rfl) (hzI 54 (by decide)) (hzL 54 (by decide)) (by decide) (rp_ne rfl (by decide)) (Nat.le_of_ble_eq_true rfl) (Nat.le_of_ble_eq_true rfl) rfl rfl rfl (fun G hc hX hRm hn => ?_)
  refine w_putS (q := 95) (C := RX8) (T := TX8) (N := 45) (k := 14) (ty0 := tyX8) (ty := (.array .int)) hc hX hRm hn dX8_init_92 rfl rfl rfl (by decide) rfl (by decide) inA_X8 tyX8_ok nmX8 (by decide) (by decide +kernel) rfl fl_X8_41 rfl rfl rfl (by decide +kernel) (nar_arr _) (fun _ => rfl) rfl (fun G hc hX hRm hn => ?_)
  refine w_aload_n (q := 96) (i := 0) (j := 0) hc dX8_init_95 rfl rfl rfl ?_
  refine w_bipush (q := 98) hc dX8_init_96 cb_10 rfl ?_
  refine w_newA (q := 100) (code := 10) (N := 10) (atype := .int) (ty := .int) (t0 := 0) hc hX hRm hn dX8_init_98 rfl rfl (tb1 (List.mem_of_getElem? (i := 88) rfl) rfl) (fun _ h => by cases h) (fun _ => rfl) (cell_10 10) (by decide) (by decide +kernel) (Nat.le_of_ble_eq_true rfl) (hzI 55 (by decide)) (hzL 55 (by decide)) (by decide) (rp_ne rfl (by decide)) (Nat.le_of_ble_eq_true rfl) (Nat.le_of_ble_eq_true rfl) rfl rfl rfl (fun G hc hX hRm hn => ?_)
  refine w_putS (q := 103) (C := RX8) (T := TX8) (N := 45) (k := 15) (ty0 := tyX8) (ty := (.array .int)) hc hX hRm hn dX8_init_100 rfl rfl rfl (by decide) rfl (by decide) inA_X8 tyX8_ok nmX8 (by decide) (by decide +kernel) rfl fl_X8_44 rfl rfl rfl (by decide +kernel) (nar_arr _) (fun _ => rfl) rfl (fun G hc hX hRm hn => ?_)
  refine w_aload_n (q := 104) (i := 0) (j := 0) hc dX8_init_103 rfl rfl rfl ?_
  refine w_bipush (q := 106) hc dX8_init_104 cb_10 rfl ?_
  refine w_newA (q := 108) (code := 10) (N := 10) (atype := .int) (ty := .int) (t0 := 0) hc hX hRm hn dX8_init_106 rfl rfl (tb1 (List.mem_of_getElem? (i := 88) rfl) rfl) (fun _ h => by cases h) (fun _ => rfl) (cell_10 10) (by decide) (by decide +kernel) (Nat.le_of_ble_eq_true rfl) (hzI 56 (by decide)) (hzL 56 (by decide)) (by decide) (rp_ne rfl (by decide)) (Nat.le_of_ble_eq_true rfl) (Nat.le_of_ble_eq_true rfl) rfl rfl rfl (fun G hc hX hRm hn => ?_)
  refine w_putS (q := 111) (C := RX8) (T := TX8) (N := 45) (k := 16) (ty0 := tyX8) (ty := (.array .int)) hc hX hRm hn dX8_init_108 rfl rfl rfl (by decide) rfl (by decide) inA_X8 tyX8_ok nmX8 (by decide) (by decide +kernel) rfl fl_X8_47 rfl rfl rfl (by decide +kernel) (nar_arr _) (fun _ => rfl) rfl (fun G hc hX hRm hn => ?_)
  refine w_aload_n (q := 112) (i := 0) (j := 0) hc dX8_init_111 rfl rfl rfl ?_
  refine w_bipush (q := 114) hc dX8_init_112 cb_10 rfl ?_
  refine w_newA (q := 116) (code := 10) (N := 10) (atype := .int) (ty := .int) (t0 := 0) hc hX hRm hn dX8_init_114 rfl rfl (tb1 (List.mem_of_getElem? (i := 88) rfl) rfl) (fun _ h => by cases h) (fun _ => rfl) (cell_10 10) (by decide) (by decide +kernel) (Nat.le_of_ble_eq_true rfl) (hzI 57 (by decide)) (hzL 57 (by decide)) (by decide) (rp_ne rfl (by decide)) (Nat.le_of_ble_eq_true rfl) (Nat.le_of_ble_eq_true rfl) rfl rfl rfl (fun G hc hX hRm hn => ?_)
  refine w_putS (q := 119) (C := RX8) (T := TX8) (N := 45) (k := 17) (ty0 := tyX8) (ty := (.array .int)) hc hX hRm hn dX8_init_116 rfl rfl rfl (by decide) rfl (by decide) inA_X8 tyX8_ok nmX8 (by decide) (by decide +kernel) rfl fl_X8_50 rfl rfl rfl (by decide +kernel) (nar_arr _) (fun _ => rfl) rfl (fun G hc hX hRm hn => ?_)
  refine w_aload_n (q := 120) (i := 0) (j := 0) hc dX8_init_119 rfl rfl rfl ?_
  refine w_bipush (q := 122) hc dX8_init_120 cb_10 rfl ?_
  refine w_newA (q := 124) (code := 10) (N := 10) (atype := .int) (ty := .int) (t0 := 0) hc hX hRm hn dX8_init_122 rfl rfl (tb1 (List.mem_of_getElem? (i := 88) rfl) rfl) (fun _ h => by cases h) (fun _ => rfl) (cell_10 10) (by decide) (by decide +kernel) (Nat.le_of_ble_eq_true rfl) (hzI 58 (by decide)) (hzL 58 (by decide)) (by decide) (rp_ne rfl (by decide)) (Nat.le_of_ble_eq_true rfl) (Nat.le_of_ble_eq_true rfl) rfl rfl rfl (fun G hc hX hRm hn => ?_)
  refine w_putS (q := 127) (C := RX8) (T := TX8) (N := 45) (k := 18) (ty0 := tyX8) (ty := (.array .int)) hc hX hRm hn dX8_init_124 rfl rfl rfl (by decide) rfl (by decide) inA_X8 tyX8_ok nmX8 (by decide) (by decide +kernel) rfl fl_X8_53 rfl rfl rfl (by decide +kernel) (nar_arr _) (fun _ => rfl) rfl (fun G hc hX hRm hn => ?_)
  refine w_aload_n (q := 128) (i := 0) (j := 0) hc dX8_init_127 rfl rfl rfl ?_
  refine w_bipush (q := 130) hc dX8_init_128 cb_10 rfl ?_
  refine w_newA (q := 132) (code := 10) (N := 10) (atype := .int) (ty := .int) (t0 := 0) hc hX hRm hn dX8_init_130 rfl rfl (tb1 (List.mem_of_getElem? (i := 88) rfl) rfl) (fun _ h => by cases h) (fun _ => rfl) (cell_10 10) (by decide) (by decide +kernel) (Nat.le_of_ble_eq_true rfl) (hzI 59 (by decide)) (hzL 59 (by decide)) (by decide) (rp_ne rfl (by decide)) (Nat.le_of_ble_eq_true rfl) (Nat.le_of_ble_eq_true rfl) rfl rfl rfl (fun G hc hX hRm hn => ?_)
  refine w_putS (q := 135) (C := RX8) (T := TX8) (N := 45) (k := 19) (ty0 := tyX8) (ty := (.array .int)) hc hX hRm hn dX8_init_132 rfl rfl rfl (by decide) rfl (by decide) inA_X8 tyX8_ok nmX8 (by decide) (by decide +kernel) rfl fl_X8_56 rfl rfl rfl (by decide +kernel) (nar_arr _) (fun _ => rfl) rfl (fun G hc hX hRm hn => ?_)
  refine w_aload_n (q := 136) (i := 0) (j := 0) hc dX8_init_135 rfl rfl rfl ?_
  refine w_ldc (q := 138) hc dX8_init_136 ki_X8_59 rfl ?_
  refine w_newA (q := 140) (code := 10) (N := 50400) (atype := .int) (ty := .int) (t0 := 0) hc hX hRm hn dX8_init_138 rfl rfl (tb1 (List.mem_of_getElem? (i := 88) rfl) rfl) (fun _ h => by cases h) (fun _ => rfl) (cell_10 50400) (by decide) (by decide +kernel) (Nat.le_of_ble_eq_true rfl) (hzI 60 (by decide)) (hzL 60 (by decide)) (by decide) (rp_ne rfl (by decide)) (Nat.le_of_ble_eq_true rfl) (Nat.le_of_ble_eq_true rfl) rfl rfl rfl (fun G hc hX hRm hn => ?_)
  refine w_putS (q := 143) (C := RX8) (T := TX8) (N := 45) (k := 21) (ty0 := tyX8) (ty := (.array .int)) hc hX hRm hn dX8_init_140 rfl rfl rfl (by decide) rfl (by decide) inA_X8 tyX8_ok nmX8 (by decide) (by decide +kernel) rfl fl_X8_60 rfl rfl rfl (by decide +kernel) (nar_arr _) (fun _ => rfl) rfl (fun G hc hX hRm hn => ?_)
  refine w_aload_n (q := 144) (i := 0) (j := 0) hc dX8_init_143 rfl rfl rfl ?_
  refine w_sipush (q := 147) hc dX8_init_144 cs_5040 rfl ?_
  refine w_newA (q := 149) (code := 10) (N := 5040) (atype := .int) (ty := .int) (t0 := 0) hc hX hRm hn dX8_init_147 rfl rfl (tb1 (List.mem_of_getElem? (i := 88) rfl) rfl) (fun _ h => by cases h) (fun _ => rfl) (cell_10 5040) (by decide) (by decide +kernel) (Nat.le_of_ble_eq_true rfl) (hzI 61 (by decide)) (hzL 61 (by decide)) (by decide) (rp_ne rfl (by decide)) (Nat.le_of_ble_eq_true rfl) (Nat.le_of_ble_eq_true rfl) rfl rfl rfl (fun G hc hX hRm hn => ?_)
  refine w_putS (q := 152) (C := RX8) (T := TX8) (N := 45) (k := 22) (ty0 := tyX8) (ty := (.array .int)) hc hX hRm hn dX8_init_149 rfl rfl rfl (by decide) rfl (by decide) inA_X8 tyX8_ok nmX8 (by decide) (by decide +kernel) rfl fl_X8_63 rfl rfl rfl (by decide +kernel) (nar_arr _) (fun _ => rfl) rfl (fun G hc hX hRm hn => ?_)
  refine w_aload_n (q := 153) (i := 0) (j := 0) hc dX8_init_152 rfl rfl rfl ?_
  refine w_sipush (q := 156) hc dX8_init_153 cs_5040 rfl ?_
  refine w_newA (q := 158) (code := 10) (N := 5040) (atype := .int) (ty := .int) (t0 := 0) hc hX hRm hn dX8_init_156 rfl rfl (tb1 (List.mem_of_getElem? (i := 88) rfl) rfl) (fun _ h => by cases h) (fun _ => rfl) (cell_10 5040) (by decide) (by decide +kernel) (Nat.le_of_ble_eq_true rfl) (hzI 62 (by decide)) (hzL 62 (by decide)) (by decide) (rp_ne rfl (by decide)) (Nat.le_of_ble_eq_true rfl) (Nat.le_of_ble_eq_true rfl) rfl rfl rfl (fun G hc hX hRm hn => ?_)
  refine w_putS (q := 161) (C := RX8) (T := TX8) (N := 45) (k := 23) (ty0 := tyX8) (ty := (.array .int)) hc hX hRm hn dX8_init_158 rfl rfl rfl (by decide) rfl (by decide) inA_X8 tyX8_ok nmX8 (by decide) (by decide +kernel) rfl fl_X8_66 rfl rfl rfl (by decide +kernel) (nar_arr _) (fun _ => rfl) rfl (fun G hc hX hRm hn => ?_)
  refine w_aload_n (q := 162) (i := 0) (j := 0) hc dX8_init_161 rfl rfl rfl ?_
  refine w_sipush (q := 165) hc dX8_init_162 cs_5040 rfl ?_
  refine w_newA (q := 167) (code := 10) (N := 5040) (atype := .int) (ty := .int) (t0 := 0) hc hX hRm hn dX8_init_165 rfl rfl (tb1 (List.mem_of_getElem? (i := 88) rfl) rfl) (fun _ h => by cases h) (fun _ => rfl) (cell_10 5040) (by decide) (by decide +kernel) (Nat.le_of_ble_eq_true rfl) (hzI 63 (by decide)) (hzL 63 (by decide)) (by decide) (rp_ne rfl (by decide)) (Nat.le_of_ble_eq_true rfl) (Nat.le_of_ble_eq_true rfl) rfl rfl rfl (fun G hc hX hRm hn => ?_)
  refine w_putS (q := 170) (C := RX8) (T := TX8) (N := 45) (k := 25) (ty0 := tyX8) (ty := (.array .int)) hc hX hRm hn dX8_init_167 rfl rfl rfl (by decide) rfl (by decide) inA_X8 tyX8_ok nmX8 (by decide) (by decide +kernel) rfl fl_X8_69 rfl rfl rfl (by decide +kernel) (nar_arr _) (fun _ => rfl) rfl (fun G hc hX hRm hn => ?_)
  refine w_aload_n (q := 171) (i := 0) (j := 0) hc dX8_init_170 rfl rfl rfl ?_
  refine w_bipush (q := 173) hc dX8_init_171 cb_10 rfl ?_
  refine w_newA (q := 175) (code := 10) (N := 10) (atype := .int) (ty := .int) (t0 := 0) hc hX hRm hn dX8_init_173 rfl rfl (tb1 (List.mem_of_getElem? (i := 88) rfl) rfl) (fun _ h => by cases h) (fun _ => rfl) (cell_10 10) (by decide) (by decide +kernel) (Nat.le_of_ble_eq_true rfl) (hzI 64 (by decide)) (hzL 64 (by decide)) (by decide) (rp_ne rfl (by decide)) (Nat.le_of_ble_eq_true rfl) (Nat.le_of_ble_eq_true rfl) rfl rfl rfl (fun G hc hX hRm hn => ?_)
  refine w_putS (q := 178) (C := RX8) (T := TX8) (N := 45) (k := 26) (ty0 := tyX8) (ty := (.array .int)) hc hX hRm hn dX8_init_175 rfl rfl rfl (by decide) rfl (by decide) inA_X8 tyX8_ok nmX8 (by decide) (by decide +kernel) rfl fl_X8_72 rfl rfl rfl (by decide +kernel) (nar_arr _) (fun _ => rfl) rfl (fun G hc hX hRm hn => ?_)
  refine w_aload_n (q := 179) (i := 0) (j := 0) hc dX8_init_178 rfl rfl rfl ?_
  refine w_bipush (q := 181) hc dX8_init_179 cb_40 rfl ?_
  refine w_newA (q := 183) (code := 12) (N := 40) (atype := .byte) (ty := .byte) (t0 := 2) hc hX hRm hn dX8_init_181 rfl rfl (tb1 (List.mem_of_getElem? (i := 86) rfl) rfl) (fun _ h => by cases h) (fun _ => rfl) (cell_12 40) (by decide) (by decide +kernel) (Nat.le_of_ble_eq_true rfl) (hzI 65 (by decide)) (hzL 65 (by decide)) (by decide) (rp_ne rfl (by decide)) (Nat.le_of_ble_eq_true rfl) (Nat.le_of_ble_eq_true rfl) rfl rfl rfl (fun G hc hX hRm hn => ?_)
  refine w_putS (q := 186) (C := RX8) (T := TX8) (N := 45) (k := 27) (ty0 := tyX8) (ty := (.array .byte)) hc hX hRm hn dX8_init_183 rfl rfl rfl (by decide) rfl (by decide) inA_X8 tyX8_ok nmX8 (by decide) (by decide +kernel) rfl fl_X8_75 rfl rfl rfl (by decide +kernel) (nar_arr _) (fun _ => rfl) rfl (fun G hc hX hRm hn => ?_)
  refine w_aload_n (q := 187) (i := 0) (j := 0) hc dX8_init_186 rfl rfl rfl ?_
  refine w_sipush (q := 190) hc dX8_init_187 cs_400 rfl ?_
  refine w_newA (q := 192) (code := 12) (N := 400) (atype := .byte) (ty := .byte) (t0 := 2) hc hX hRm hn dX8_init_190 rfl rfl (tb1 (List.mem_of_getElem? (i := 86) rfl) rfl) (fun _ h => by cases h) (fun _ => rfl) (cell_12 400) (by decide) (by decide +kernel) (Nat.le_of_ble_eq_true rfl) (hzI 66 (by decide)) (hzL 66 (by decide)) (by decide) (rp_ne rfl (by decide)) (Nat.le_of_ble_eq_true rfl) (Nat.le_of_ble_eq_true rfl) rfl rfl rfl (fun G hc hX hRm hn => ?_)
  refine w_putS (q := 195) (C := RX8) (T := TX8) (N := 45) (k := 29) (ty0 := tyX8) (ty := (.array .byte)) hc hX hRm hn dX8_init_192 rfl rfl rfl (by decide) rfl (by decide) inA_X8 tyX8_ok nmX8 (by decide) (by decide +kernel) rfl fl_X8_79 rfl rfl rfl (by decide +kernel) (nar_arr _) (fun _ => rfl) rfl (fun G hc hX hRm hn => ?_)
  refine w_aload_n (q := 196) (i := 0) (j := 0) hc dX8_init_195 rfl rfl rfl ?_
  refine w_iconst (q := 197) hc dX8_init_196 ci_m1 rfl ?_
  refine w_putE (q := 200) (C := RX8) (T := TX8) (N := 45) (k := 31) (ty0 := tyX8) (ty := .int) hc dX8_init_197 (kS hX (by decide) rfl) rfl (by decide) inA_X8 tyX8_ok nmX8 (by decide) (by decide +kernel) rfl fl_X8_82 rfl rfl (by decide +kernel) (by decide +kernel) (by decide +kernel) rfl ?_
  refine w_aload_n (q := 201) (i := 0) (j := 0) hc dX8_init_200 rfl rfl rfl ?_
  refine w_iconst (q := 202) hc dX8_init_201 ci_m1 rfl ?_
  refine w_putE (q := 205) (C := RX8) (T := TX8) (N := 45) (k := 32) (ty0 := tyX8) (ty := .int) hc dX8_init_202 (kS hX (by decide) rfl) rfl (by decide) inA_X8 tyX8_ok nmX8 (by decide) (by decide +kernel) rfl fl_X8_86 rfl rfl (by decide +kernel) (by decide +kernel) (by decide +kernel) rfl ?_
  refine w_aload_n (q := 206) (i := 0) (j := 0) hc dX8_init_205 rfl rfl rfl ?_
  refine w_bipush (q := 208) hc dX8_init_206 cb_6 rfl ?_
  refine w_newA (q := 210) (code := 11) (N := 6) (atype := .long) (ty := .long) (t0 := 1) hc hX hRm hn dX8_init_208 rfl rfl (tb1 (List.mem_of_getElem? (i := 87) rfl) rfl) (fun _ h => by cases h) (fun _ => rfl) (cell_11 6) (by decide) (by decide +kernel) (Nat.le_of_ble_eq_true rfl) ((up2_ne (by decide)).trans ((up2_ne (by decide)).trans (hzI 67 (by decide)))) (hzL 67 (by decide)) (by decide) (rp_ne rfl (by decide)) (Nat.le_of_ble_eq_true rfl) (Nat.le_of_ble_eq_true rfl) rfl rfl rfl (fun G hc hX hRm hn => ?_)
  refine w_putS (q := 213) (C := RX8) (T := TX8) (N := 45) (k := 43) (ty0 := tyX8) (ty := (.array .long)) hc hX hRm hn dX8_init_210 rfl rfl rfl (by decide) rfl (by decide) inA_X8 tyX8_ok nmX8 (by decide) (by decide +kernel) rfl fl_X8_89 rfl rfl rfl (by decide +kernel) (nar_arr _) (fun _ => rfl) rfl (fun G hc hX hRm hn => ?_)
  refine w_aload_n (q := 214) (i := 0) (j := 0) hc dX8_init_213 rfl rfl rfl ?_
  refine w_bipush (q := 216) hc dX8_init_214 cb_60 rfl ?_
  refine w_newA (q := 218) (code := 10) (N := 60) (atype := .int) (ty := .int) (t0 := 0) hc hX hRm hn dX8_init_216 rfl rfl (tb1 (List.mem_of_getElem? (i := 88) rfl) rfl) (fun _ h => by cases h) (fun _ => rfl) (cell_10 60) (by decide) (by decide +kernel) (Nat.le_of_ble_eq_true rfl) ((up2_ne (by decide)).trans ((up2_ne (by decide)).trans (hzI 68 (by decide)))) (hzL 68 (by decide)) (by decide) (rp_ne rfl (by decide)) (Nat.le_of_ble_eq_true rfl) (Nat.le_of_ble_eq_true rfl) rfl rfl rfl (fun G hc hX hRm hn => ?_)
  refine w_putS (q := 221) (C := RX8) (T := TX8) (N := 45) (k := 44) (ty0 := tyX8) (ty := (.array .int)) hc hX hRm hn dX8_init_218 rfl rfl rfl (by decide) rfl (by decide) inA_X8 tyX8_ok nmX8 (by decide) (by decide +kernel) rfl fl_X8_93 rfl rfl rfl (by decide +kernel) (nar_arr _) (fun _ => rfl) rfl (fun G hc hX hRm hn => ?_)
  refine w_aload_n (q := 222) (i := 0) (j := 0) hc dX8_init_221 rfl rfl rfl ?_
  have hK : gK G = lK 0 := hX.2.2.2.1.trans K0_69
  have hR : gR G = lR 0 := hX.2.2.2.2.1.trans (rp_full (by decide +kernel))
  refine gf_X8_16 (q := 225) hc dX8_init_222 (k_43 hK) (r_43_6 hR) rfl ?_
  refine w_callS_Wv (q := 228) (st := []) (args := [.ref 46]) hc (m_X8_isHome hK hR (kB hK (k_46 hK))) dX8_init_225 ml_X8_96 cf_X8_isHome st_X8_isHome rfl rfl (Nat.le_of_ble_eq_true rfl) ⟨Nat.le_of_ble_eq_true rfl, Nat.le_of_ble_eq_true rfl⟩ rfl (fun q1 => ?_)
  refine w_aload_n (q := 229) (i := 0) (j := 0) hc dX8_init_228 rfl rfl rfl ?_
  refine gf_X8_16 (q := 232) hc dX8_init_229 (k_43 hK) (r_43_6 hR) rfl ?_
  refine w_iconst (q := 233) hc dX8_init_232 ci_0 rfl ?_
  refine w_aload_n (q := 234) (i := 0) (j := 0) hc dX8_init_233 rfl rfl rfl ?_
  refine gf_X8_7 (q := 237) hc dX8_init_234 (k_43 hK) (r_43_4 hR) rfl ?_
  refine w_iconst (q := 238) hc dX8_init_237 ci_1 rfl ?_
  refine w_callS_Wv (q := 241) (st := []) (args := [.ref 46, .int 0, .ref 44, .int 1]) hc (m_X8_copies hK hR (kB hK (k_46 hK)) (kB hK (k_44 hK))) dX8_init_238 ml_X8_100 cf_X8_copies st_X8_copies rfl rfl (Nat.le_of_ble_eq_true rfl) ⟨Nat.le_of_ble_eq_true rfl, Nat.le_of_ble_eq_true rfl⟩ rfl (fun q2 => ?_)
  exact w_returnS hc hX dX8_init_241
