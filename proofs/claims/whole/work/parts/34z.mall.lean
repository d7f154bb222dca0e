theorem RLr_get {N m : Nat} : (RLr N).take m = (RLr N).take m := rfl
theorem rl_nf (N m : Nat) (hm : m < 7) : ((RLr N).take m).find? (fun e => e.1 == (N, 4 + m)) = none := by
  rw [List.find?_eq_none]
  intro e he h1
  obtain ⟨i, hi⟩ := List.getElem?_of_mem he
  rw [List.getElem?_take] at hi
  split at hi
  · rename_i hlt
    have h3 : e.1 = (N, 4 + m) := by simpa using h1
    have h4 : e.1.2 = 4 + i := by
      match i, hi with
      | 0, hi => cases hi; rfl
      | 1, hi => cases hi; rfl
      | 2, hi => cases hi; rfl
      | 3, hi => cases hi; rfl
      | 4, hi => cases hi; rfl
      | 5, hi => cases hi; rfl
      | 6, hi => cases hi; rfl
      | i + 7, hi => simp [RLr] at hi
    rw [h3] at h4
    have h5 : 4 + m = 4 + i := h4
    omega
  · cases hi
set_option maxRecDepth 100000 in
set_option maxHeartbeats 4000000 in
theorem k_X4 {l : Launch} {rm N r : Nat} {I : MI} {L : ML} {a1 : Int32} {KP : KT} (hKP : KP.length = N) (hN : okN rm N) (hx0 : ¬ (imax a1 1) < 0) (hxr : (imax a1 1).toNatClampNeg = r) (hr5 : r ≤ 5040) (hzI : ∀ p, N ≤ p → I p = fun _ => 0) (hzL : ∀ p, N ≤ p → L p = fun _ => 0) : MFs l yX4_init cX4_init 2 1 21 19 (12 + 18 * r) [.ref N, .int a1] (KP ++ KR r) (RLr N) (Rbr rm N) (N + 1) 0 (N + 20) 7 I L (some (up2 I N 0 (imax a1 1), L)) := by
  refine mfs_of (plainFor_of_name (by decide)) rfl (Nat.le_of_ble_eq_true rfl) ?_
  intro G ad0 hc hX hRm hn
  show WW G 0 [(0, .ref N), (1, .int a1)] [] I L _
  refine w_aload_n (q := 1) (i := 0) (j := 0) hc dX4_init_0 rfl rfl rfl ?_
  refine w_objI (q := 4) hc dX4_init_1 oiR_ml oiR_inst oiR_code (Nat.le_of_ble_eq_true rfl) (Nat.le_of_ble_eq_true rfl) rfl ?_
  refine w_aload_n (q := 5) (i := 0) (j := 0) hc dX4_init_4 rfl rfl rfl ?_
  refine w_iconst (q := 6) hc dX4_init_5 ci_0 rfl ?_
  refine w_put0 (q := 9) (C := RX4) (T := TX4) (N := 16) (k := 1) (ty0 := tyX4) (ty := .int) hc dX4_init_6 (by rw [hX.2.2.2.1, List.getElem?_take, if_pos (by omega)]; exact KBg (i := 0) hKP rfl) rfl (by decide) inA_X4 tyX4_ok nmX4 (by decide) (by decide +kernel) rfl fl_X4_9 rfl rfl (by decide +kernel) (by decide +kernel) (by decide +kernel) (hzI _ (Nat.le_refl _)) rfl ?_
  refine w_aload_n (q := 10) (i := 0) (j := 0) hc dX4_init_9 rfl rfl rfl ?_
  refine w_iconst (q := 11) hc dX4_init_10 ci_0 rfl ?_
  refine w_put0 (q := 14) (C := RX4) (T := TX4) (N := 16) (k := 2) (ty0 := tyX4) (ty := .int) hc dX4_init_11 (by rw [hX.2.2.2.1, List.getElem?_take, if_pos (by omega)]; exact KBg (i := 0) hKP rfl) rfl (by decide) inA_X4 tyX4_ok nmX4 (by decide) (by decide +kernel) rfl fl_X4_15 rfl rfl (by decide +kernel) (by decide +kernel) (by decide +kernel) (hzI _ (Nat.le_refl _)) rfl ?_
  refine w_aload_n (q := 15) (i := 0) (j := 0) hc dX4_init_14 rfl rfl rfl ?_
  refine w_iconst (q := 16) hc dX4_init_15 ci_0 rfl ?_
  refine w_put0 (q := 19) (C := RX4) (T := TX4) (N := 16) (k := 3) (ty0 := tyX4) (ty := .int) hc dX4_init_16 (by rw [hX.2.2.2.1, List.getElem?_take, if_pos (by omega)]; exact KBg (i := 0) hKP rfl) rfl (by decide) inA_X4 tyX4_ok nmX4 (by decide) (by decide +kernel) rfl fl_X4_18 rfl rfl (by decide +kernel) (by decide +kernel) (by decide +kernel) (hzI _ (Nat.le_refl _)) rfl ?_
  refine w_aload_n (q := 20) (i := 0) (j := 0) hc dX4_init_19 rfl rfl rfl ?_
  refine w_iconst (q := 21) hc dX4_init_20 ci_0 rfl ?_
  refine w_put0 (q := 24) (C := RX4) (T := TX4) (N := 16) (k := 11) (ty0 := tyX4) (ty := .int) hc dX4_init_21 (by rw [hX.2.2.2.1, List.getElem?_take, if_pos (by omega)]; exact KBg (i := 0) hKP rfl) rfl (by decide) inA_X4 tyX4_ok nmX4 (by decide) (by decide +kernel) rfl fl_X4_21 rfl rfl (by decide +kernel) (by decide +kernel) (by decide +kernel) (hzI _ (Nat.le_refl _)) rfl ?_
  refine w_aload_n (q := 25) (i := 0) (j := 0) hc dX4_init_24 rfl rfl rfl ?_
  refine w_iconst (q := 26) hc dX4_init_25 ci_0 rfl ?_
  refine w_put0 (q := 29) (C := RX4) (T := TX4) (N := 16) (k := 12) (ty0 := tyX4) (ty := .int) hc dX4_init_26 (by rw [hX.2.2.2.1, List.getElem?_take, if_pos (by omega)]; exact KBg (i := 0) hKP rfl) rfl (by decide) inA_X4 tyX4_ok nmX4 (by decide) (by decide +kernel) rfl fl_X4_24 rfl rfl (by decide +kernel) (by decide +kernel) (by decide +kernel) (hzI _ (Nat.le_refl _)) rfl ?_
  refine w_aload_n (q := 30) (i := 0) (j := 0) hc dX4_init_29 rfl rfl rfl ?_
  refine w_iconst (q := 31) hc dX4_init_30 ci_0 rfl ?_
  refine w_put0 (q := 34) (C := RX4) (T := TX4) (N := 16) (k := 13) (ty0 := tyX4) (ty := .boolean) hc dX4_init_31 (by rw [hX.2.2.2.1, List.getElem?_take, if_pos (by omega)]; exact KBg (i := 0) hKP rfl) rfl (by decide) inA_X4 tyX4_ok nmX4 (by decide) (by decide +kernel) rfl fl_X4_27 rfl rfl (by decide +kernel) (by decide +kernel) (by decide +kernel) (hzI _ (Nat.le_refl _)) rfl ?_
  refine w_aload_n (q := 35) (i := 0) (j := 0) hc dX4_init_34 rfl rfl rfl ?_
  refine w_iconst (q := 36) hc dX4_init_35 ci_0 rfl ?_
  refine w_put0 (q := 39) (C := RX4) (T := TX4) (N := 16) (k := 14) (ty0 := tyX4) (ty := .boolean) hc dX4_init_36 (by rw [hX.2.2.2.1, List.getElem?_take, if_pos (by omega)]; exact KBg (i := 0) hKP rfl) rfl (by decide) inA_X4 tyX4_ok nmX4 (by decide) (by decide +kernel) rfl fl_X4_31 rfl rfl (by decide +kernel) (by decide +kernel) (by decide +kernel) (hzI _ (Nat.le_refl _)) rfl ?_
  refine w_aload_n (q := 40) (i := 0) (j := 0) hc dX4_init_39 rfl rfl rfl ?_
  refine w_iconst (q := 41) hc dX4_init_40 ci_0 rfl ?_
  refine w_put0 (q := 44) (C := RX4) (T := TX4) (N := 16) (k := 15) (ty0 := tyX4) (ty := .boolean) hc dX4_init_41 (by rw [hX.2.2.2.1, List.getElem?_take, if_pos (by omega)]; exact KBg (i := 0) hKP rfl) rfl (by decide) inA_X4 tyX4_ok nmX4 (by decide) (by decide +kernel) rfl fl_X4_34 rfl rfl (by decide +kernel) (by decide +kernel) (by decide +kernel) (hzI _ (Nat.le_refl _)) rfl ?_
  refine w_aload_n (q := 45) (i := 0) (j := 0) hc dX4_init_44 rfl rfl rfl ?_
  refine w_iload_n (q := 46) (i := 1) (j := 1) hc dX4_init_45 rfl rfl rfl ?_
  refine w_iconst (q := 47) hc dX4_init_46 ci_1 rfl ?_
  refine w_max (q := 50) (st := [.ref N]) hc dX4_init_47 ml_X4_37 (Nat.le_of_ble_eq_true rfl) (Nat.le_of_ble_eq_true rfl) (Nat.le_of_ble_eq_true rfl) rfl ?_
  refine w_putEF (q := 53) (C := RX4) (T := TX4) (N := 16) (k := 0) (ty0 := tyX4) (ty := .int) hc hX dX4_init_50 (by rw [hX.2.2.2.1, List.getElem?_take, if_pos (by omega)]; exact KBg (i := 0) hKP rfl) rfl (by decide) inA_X4 tyX4_ok nmX4 (by decide) (by decide +kernel) rfl fl_X4_43 rfl rfl rfl (by decide +kernel) rfl rfl rfl ?_
  refine w_aload_n (q := 54) (i := 0) (j := 0) hc dX4_init_53 rfl rfl rfl ?_
  refine w_aload_n (q := 55) (i := 0) (j := 0) hc dX4_init_54 rfl rfl rfl ?_
  refine gf_X4_43 (q := 58) hc dX4_init_55 (by rw [hX.2.2.2.1, List.getElem?_take, if_pos (by omega)]; exact KBg (i := 0) hKP rfl) rfl ?_
  rw [show up2 I N 0 (imax a1 1) N 0 = (imax a1 1) by simp [up2]]
  refine w_newA (q := 60) (n := N + 1) (code := 10) (N := r) (atype := .int) (ty := .int) (t0 := 0) hc hX hRm hn dX4_init_58 (KBg (i := 1) hKP rfl) rfl (tb1 (List.mem_of_getElem? (i := 88) rfl) rfl) (fun _ h => by cases h) (fun _ => rfl) (cell_10 r) hx0 hxr (by show r * 4 ≤ _; omega) ((up2_ne (by omega)).trans (hzI _ (by omega))) (hzL _ (by omega)) (by rcases hN with h | h <;> omega) (rpN_ne hN (by omega) (by omega)) (Nat.le_of_ble_eq_true rfl) (by omega) (by simp [oknv]) (by simp [oknv]) rfl (fun G hc hX hRm hn => ?_)
  refine w_putS (q := 63) (C := RX4) (T := TX4) (N := 16) (k := 4) (ty0 := tyX4) (ty := (.array .int)) hc hX hRm hn dX4_init_60 rfl (rl_nf N 0 (by decide)) (KBg (i := 0) hKP rfl) (by omega) rfl (by decide) inA_X4 tyX4_ok nmX4 (by decide) (by decide +kernel) rfl fl_X4_46 rfl rfl rfl (by decide +kernel) (nar_arr _) (fun _ => rfl) rfl (fun G hc hX hRm hn => ?_)
  refine w_aload_n (q := 64) (i := 0) (j := 0) hc dX4_init_63 rfl rfl rfl ?_
  refine w_aload_n (q := 65) (i := 0) (j := 0) hc dX4_init_64 rfl rfl rfl ?_
  refine gf_X4_43 (q := 68) hc dX4_init_65 (by rw [hX.2.2.2.1, List.getElem?_take, if_pos (by omega)]; exact KBg (i := 0) hKP rfl) rfl ?_
  rw [show up2 I N 0 (imax a1 1) N 0 = (imax a1 1) by simp [up2]]
  refine w_newA (q := 70) (n := N + 2) (code := 10) (N := r) (atype := .int) (ty := .int) (t0 := 0) hc hX hRm hn dX4_init_68 (KBg (i := 2) hKP rfl) rfl (tb1 (List.mem_of_getElem? (i := 88) rfl) rfl) (fun _ h => by cases h) (fun _ => rfl) (cell_10 r) hx0 hxr (by show r * 4 ≤ _; omega) ((up2_ne (by omega)).trans (hzI _ (by omega))) (hzL _ (by omega)) (by rcases hN with h | h <;> omega) (rpN_ne hN (by omega) (by omega)) (Nat.le_of_ble_eq_true rfl) (by omega) (by simp [oknv]) (by simp [oknv]) rfl (fun G hc hX hRm hn => ?_)
  refine w_putS (q := 73) (C := RX4) (T := TX4) (N := 16) (k := 5) (ty0 := tyX4) (ty := (.array .int)) hc hX hRm hn dX4_init_70 rfl (rl_nf N 1 (by decide)) (KBg (i := 0) hKP rfl) (by omega) rfl (by decide) inA_X4 tyX4_ok nmX4 (by decide) (by decide +kernel) rfl fl_X4_50 rfl rfl rfl (by decide +kernel) (nar_arr _) (fun _ => rfl) rfl (fun G hc hX hRm hn => ?_)
  refine w_aload_n (q := 74) (i := 0) (j := 0) hc dX4_init_73 rfl rfl rfl ?_
  refine w_aload_n (q := 75) (i := 0) (j := 0) hc dX4_init_74 rfl rfl rfl ?_
  refine gf_X4_43 (q := 78) hc dX4_init_75 (by rw [hX.2.2.2.1, List.getElem?_take, if_pos (by omega)]; exact KBg (i := 0) hKP rfl) rfl ?_
  rw [show up2 I N 0 (imax a1 1) N 0 = (imax a1 1) by simp [up2]]
  refine w_newA (q := 80) (n := N + 3) (code := 11) (N := r) (atype := .long) (ty := .long) (t0 := 1) hc hX hRm hn dX4_init_78 (KBg (i := 3) hKP rfl) rfl (tb1 (List.mem_of_getElem? (i := 87) rfl) rfl) (fun _ h => by cases h) (fun _ => rfl) (cell_11 r) hx0 hxr (by show r * 8 ≤ _; omega) ((up2_ne (by omega)).trans (hzI _ (by omega))) (hzL _ (by omega)) (by rcases hN with h | h <;> omega) (rpN_ne hN (by omega) (by omega)) (Nat.le_of_ble_eq_true rfl) (by omega) (by simp [oknv]) (by simp [oknv]) rfl (fun G hc hX hRm hn => ?_)
  refine w_putS (q := 83) (C := RX4) (T := TX4) (N := 16) (k := 6) (ty0 := tyX4) (ty := (.array .long)) hc hX hRm hn dX4_init_80 rfl (rl_nf N 2 (by decide)) (KBg (i := 0) hKP rfl) (by omega) rfl (by decide) inA_X4 tyX4_ok nmX4 (by decide) (by decide +kernel) rfl fl_X4_53 rfl rfl rfl (by decide +kernel) (nar_arr _) (fun _ => rfl) rfl (fun G hc hX hRm hn => ?_)
  refine w_aload_n (q := 84) (i := 0) (j := 0) hc dX4_init_83 rfl rfl rfl ?_
  refine w_aload_n (q := 85) (i := 0) (j := 0) hc dX4_init_84 rfl rfl rfl ?_
  refine gf_X4_43 (q := 88) hc dX4_init_85 (by rw [hX.2.2.2.1, List.getElem?_take, if_pos (by omega)]; exact KBg (i := 0) hKP rfl) rfl ?_
  rw [show up2 I N 0 (imax a1 1) N 0 = (imax a1 1) by simp [up2]]
  refine w_newA (q := 90) (n := N + 4) (code := 11) (N := r) (atype := .long) (ty := .long) (t0 := 1) hc hX hRm hn dX4_init_88 (KBg (i := 4) hKP rfl) rfl (tb1 (List.mem_of_getElem? (i := 87) rfl) rfl) (fun _ h => by cases h) (fun _ => rfl) (cell_11 r) hx0 hxr (by show r * 8 ≤ _; omega) ((up2_ne (by omega)).trans (hzI _ (by omega))) (hzL _ (by omega)) (by rcases hN with h | h <;> omega) (rpN_ne hN (by omega) (by omega)) (Nat.le_of_ble_eq_true rfl) (by omega) (by simp [oknv]) (by simp [oknv]) rfl (fun G hc hX hRm hn => ?_)
  refine w_putS (q := 93) (C := RX4) (T := TX4) (N := 16) (k := 7) (ty0 := tyX4) (ty := (.array .long)) hc hX hRm hn dX4_init_90 rfl (rl_nf N 3 (by decide)) (KBg (i := 0) hKP rfl) (by omega) rfl (by decide) inA_X4 tyX4_ok nmX4 (by decide) (by decide +kernel) rfl fl_X4_57 rfl rfl rfl (by decide +kernel) (nar_arr _) (fun _ => rfl) rfl (fun G hc hX hRm hn => ?_)
  refine w_aload_n (q := 94) (i := 0) (j := 0) hc dX4_init_93 rfl rfl rfl ?_
  refine w_aload_n (q := 95) (i := 0) (j := 0) hc dX4_init_94 rfl rfl rfl ?_
  refine gf_X4_43 (q := 98) hc dX4_init_95 (by rw [hX.2.2.2.1, List.getElem?_take, if_pos (by omega)]; exact KBg (i := 0) hKP rfl) rfl ?_
  rw [show up2 I N 0 (imax a1 1) N 0 = (imax a1 1) by simp [up2]]
  refine w_newA (q := 100) (n := N + 5) (code := 10) (N := r) (atype := .int) (ty := .int) (t0 := 0) hc hX hRm hn dX4_init_98 (KBg (i := 5) hKP rfl) rfl (tb1 (List.mem_of_getElem? (i := 88) rfl) rfl) (fun _ h => by cases h) (fun _ => rfl) (cell_10 r) hx0 hxr (by show r * 4 ≤ _; omega) ((up2_ne (by omega)).trans (hzI _ (by omega))) (hzL _ (by omega)) (by rcases hN with h | h <;> omega) (rpN_ne hN (by omega) (by omega)) (Nat.le_of_ble_eq_true rfl) (by omega) (by simp [oknv]) (by simp [oknv]) rfl (fun G hc hX hRm hn => ?_)
  refine w_putS (q := 103) (C := RX4) (T := TX4) (N := 16) (k := 8) (ty0 := tyX4) (ty := (.array .int)) hc hX hRm hn dX4_init_100 rfl (rl_nf N 4 (by decide)) (KBg (i := 0) hKP rfl) (by omega) rfl (by decide) inA_X4 tyX4_ok nmX4 (by decide) (by decide +kernel) rfl fl_X4_60 rfl rfl rfl (by decide +kernel) (nar_arr _) (fun _ => rfl) rfl (fun G hc hX hRm hn => ?_)
  refine w_aload_n (q := 104) (i := 0) (j := 0) hc dX4_init_103 rfl rfl rfl ?_
  refine w_aload_n (q := 105) (i := 0) (j := 0) hc dX4_init_104 rfl rfl rfl ?_
  refine gf_X4_43 (q := 108) hc dX4_init_105 (by rw [hX.2.2.2.1, List.getElem?_take, if_pos (by omega)]; exact KBg (i := 0) hKP rfl) rfl ?_
  rw [show up2 I N 0 (imax a1 1) N 0 = (imax a1 1) by simp [up2]]
  refine w_newA (q := 110) (n := N + 6) (code := 10) (N := r) (atype := .int) (ty := .int) (t0 := 0) hc hX hRm hn dX4_init_108 (KBg (i := 6) hKP rfl) rfl (tb1 (List.mem_of_getElem? (i := 88) rfl) rfl) (fun _ h => by cases h) (fun _ => rfl) (cell_10 r) hx0 hxr (by show r * 4 ≤ _; omega) ((up2_ne (by omega)).trans (hzI _ (by omega))) (hzL _ (by omega)) (by rcases hN with h | h <;> omega) (rpN_ne hN (by omega) (by omega)) (Nat.le_of_ble_eq_true rfl) (by omega) (by simp [oknv]) (by simp [oknv]) rfl (fun G hc hX hRm hn => ?_)
  refine w_putS (q := 113) (C := RX4) (T := TX4) (N := 16) (k := 9) (ty0 := tyX4) (ty := (.array .int)) hc hX hRm hn dX4_init_110 rfl (rl_nf N 5 (by decide)) (KBg (i := 0) hKP rfl) (by omega) rfl (by decide) inA_X4 tyX4_ok nmX4 (by decide) (by decide +kernel) rfl fl_X4_63 rfl rfl rfl (by decide +kernel) (nar_arr _) (fun _ => rfl) rfl (fun G hc hX hRm hn => ?_)
  refine w_aload_n (q := 114) (i := 0) (j := 0) hc dX4_init_113 rfl rfl rfl ?_
  refine w_bipush (q := 116) hc dX4_init_114 cb_12 rfl ?_
  refine w_aload_n (q := 117) (i := 0) (j := 0) hc dX4_init_116 rfl rfl rfl ?_
  refine gf_X4_43 (q := 120) hc dX4_init_117 (by rw [hX.2.2.2.1, List.getElem?_take, if_pos (by omega)]; exact KBg (i := 0) hKP rfl) rfl ?_
  rw [show up2 I N 0 (imax a1 1) N 0 = (imax a1 1) by simp [up2]]
  refine w_mna (q := 124) (N := N) hc hX hRm hn dX4_init_120 hKP hN (by omega) hx0 hxr hr5 (fun p hp => (up2_ne (by omega)).trans (hzI _ (by omega))) (Nat.le_of_ble_eq_true rfl) (by omega) (by simp [oknv]) (by simp [oknv]) rfl (fun G hc hX hRm hn => ?_)
  refine w_putS (q := 127) (C := RX4) (T := TX4) (N := 16) (k := 10) (ty0 := tyX4) (ty := (.array (.array .int))) hc hX hRm hn dX4_init_124 rfl (rl_nf N 6 (by decide)) (KBg (i := 0) hKP rfl) (by omega) rfl (by decide) inA_X4 tyX4_ok nmX4 (by decide) (by decide +kernel) rfl fl_X4_68 rfl rfl rfl (by decide +kernel) (nar_arr _) (fun _ => rfl) rfl (fun G hc hX hRm hn => ?_)
  exact w_returnS hc (by have h := hX; rw [show 0 + 1 + 1 + 1 + 1 + 1 + 1 + 13 = 19 from rfl, show 0 + r + r + r + r + r + r + 12 + 12 * r = 12 + 18 * r by omega] at h; exact h) dX4_init_127
