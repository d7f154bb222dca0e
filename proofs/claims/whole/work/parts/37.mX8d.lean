set_option maxRecDepth 100000 in
set_option maxHeartbeats 4000000 in
theorem m_X8_good {l : Launch} {K : KT} {R : MR} {rm : Nat} {I : MI} {L : ML} (hK0 : K = lK rm) (hR0 : R = lR rm) : MFg l yX8_good cX8_good 1 (some .boolean) 0 0 [.ref 43] K R I L anZ (meR I L) (f_X8_good I L) := by
  refine mf_of (plainFor_of_name (by decide)) (Nat.le_of_ble_eq_true rfl) ?_
  intro G hc _ hK1 hR1 hn hq
  have hK := hK1.trans hK0
  have hR := hR1.trans hR0
  have hN : ∀ i, Nat.blt i 1 = true → i < gnL G := fun i h => hn ▸ Nat.blt_eq.mp h
  unfold f_X8_good
  show WW G 0 [(0, .ref 43)] [] I L _
  refine w_aload_n (q := 1) (i := 0) (j := 0) hc dX8_good_0 rfl rfl rfl ?_
  refine gf_X8_435 (q := 4) hc dX8_good_1 (k_43 hK) rfl ?_
  refine w_ifne (q := 7) (tgt := 11) hc dX8_good_4 rfl rfl ?_ ?_
  · refine w_iconst (q := 8) hc dX8_good_7 ci_1 rfl ?_
    refine w_goto (tgt := 12) hc dX8_good_8 rfl ?_
    exact w_ireturn (v := b2i true) hc hq dX8_good_12 (nar_b2i true) rfl rfl
  · refine w_iconst (q := 12) hc dX8_good_11 ci_0 rfl ?_
    exact w_ireturn (v := b2i false) hc hq dX8_good_12 (nar_b2i false) rfl rfl
set_option maxRecDepth 100000 in
set_option maxHeartbeats 4000000 in
theorem m_X8_isSign {l : Launch} {K : KT} {R : MR} {rm : Nat} {a1 : Int32} {I : MI} {L : ML} (hK0 : K = lK rm) (hR0 : R = lR rm) : MFg l yX8_isSign cX8_isSign 2 (some .boolean) 1 20 [.ref 43, .int a1] K R I L anZ (meR I L) (f_X8_isSign a1 I L) := by
  refine mf_of (plainFor_of_name (by decide)) (Nat.le_of_ble_eq_true rfl) ?_
  intro G hc _ hK1 hR1 hn hq
  have hK := hK1.trans hK0
  have hR := hR1.trans hR0
  have hN : ∀ i, Nat.blt i 2 = true → i < gnL G := fun i h => hn ▸ Nat.blt_eq.mp h
  unfold f_X8_isSign
  show WW G 0 [(0, .ref 43), (1, .int a1)] [] I L _
  refine w_aload_n (q := 1) (i := 0) (j := 0) hc dX8_isSign_0 rfl rfl rfl ?_
  refine w_callV_Rz (q := 4) (st := []) (args := []) (p := 43) hc (m_X8_good hK hR) dX8_isSign_1 ml_X8_408 cf_X8_good iv_X8_good (k_43 hK) (C := RX8) (T := TX8) (N := 45) rfl rfl (Nat.lt_of_succ_le (Nat.le_of_ble_eq_true rfl)) rfl rfl (Nat.le_of_ble_eq_true rfl) ⟨Nat.le_of_ble_eq_true rfl, Nat.le_of_ble_eq_true rfl⟩ rfl (fun q_1 => ?_)
  refine w_ifeq (q := 7) (tgt := 35) hc dX8_isSign_4 rfl rfl ?_ ?_
  · refine w_iconst (q := 36) hc dX8_isSign_35 ci_0 rfl ?_
    exact w_ireturn (v := b2i false) hc hq dX8_isSign_36 (nar_b2i false) rfl rfl
  · refine w_aload_n (q := 8) (i := 0) (j := 0) hc dX8_isSign_7 rfl rfl rfl ?_
    refine gf_X8_411 (q := 11) hc dX8_isSign_8 (k_43 hK) rfl ?_
    refine w_aload_n (q := 12) (i := 0) (j := 0) hc dX8_isSign_11 rfl rfl rfl ?_
    refine gf_X8_405 (q := 15) hc dX8_isSign_12 (k_43 hK) rfl ?_
    refine w_icmpge (q := 18) (tgt := 35) hc dX8_isSign_15 rfl rfl ?_ ?_
    · refine w_iconst (q := 36) hc dX8_isSign_35 ci_0 rfl ?_
      exact w_ireturn (v := b2i false) hc hq dX8_isSign_36 (nar_b2i false) rfl rfl
    · refine w_aload_n (q := 19) (i := 0) (j := 0) hc dX8_isSign_18 rfl rfl rfl ?_
      refine gf_X8_79 (q := 22) hc dX8_isSign_19 (k_43 hK) (r_43_29 hR) rfl ?_
      refine w_aload_n (q := 23) (i := 0) (j := 0) hc dX8_isSign_22 rfl rfl rfl ?_
      refine gf_X8_411 (q := 26) hc dX8_isSign_23 (k_43 hK) rfl ?_
      refine w_bald (q := 27) hc dX8_isSign_26 (k_66 hK) rfl ?_
      refine w_iload_n (q := 28) (i := 1) (j := 1) hc dX8_isSign_27 rfl rfl rfl ?_
      refine w_icmpne (q := 31) (tgt := 35) hc dX8_isSign_28 rfl rfl ?_ ?_
      · refine w_iconst (q := 32) hc dX8_isSign_31 ci_1 rfl ?_
        refine w_goto (tgt := 36) hc dX8_isSign_32 rfl ?_
        exact w_ireturn (v := b2i true) hc hq dX8_isSign_36 (nar_b2i true) rfl rfl
      · refine w_iconst (q := 36) hc dX8_isSign_35 ci_0 rfl ?_
        exact w_ireturn (v := b2i false) hc hq dX8_isSign_36 (nar_b2i false) rfl rfl
set_option maxRecDepth 100000 in
set_option maxHeartbeats 4000000 in
theorem wl_X8_reads_296 {G : GT Mm} {rm : Nat} (L : ML) (hc : Cx G cX8_reads yX8_reads.cls none 2 48) (hq : RetQ G anV meV) (hK : gK G = lK rm) (hR : gR G = lR rm) (hn : gnL G = 1) (k0 : MI → Option Mm) (hk0 : ∀ (I_21 : MI), WW G 368 [(0, .ref 43)] [] I_21 L (k0 I_21)) : ∀ (n : Nat) (I_15 : MI), WW G 296 [(0, .ref 43)] [] I_15 L (f_X8_reads_296 L k0 n I_15) := by
  have hN : ∀ i, Nat.blt i 1 = true → i < gnL G := fun i h => hn ▸ Nat.blt_eq.mp h
  intro n
  induction n with
  | zero => intros; exact w_none _ _ _
  | succ n ih =>
    intros I_15
    rw [f_X8_reads_296]
    refine w_aload_n (q := 297) (i := 0) (j := 0) hc dX8_reads_296 rfl rfl rfl ?_
    refine w_aload_n (q := 298) (i := 0) (j := 0) hc dX8_reads_297 rfl rfl rfl ?_
    refine gf_X8_414 (q := 301) hc dX8_reads_298 (k_43 hK) rfl ?_
    refine w_bipush (q := 303) hc dX8_reads_301 cb_48 rfl ?_
    refine w_bipush (q := 305) hc dX8_reads_303 cb_57 rfl ?_
    refine w_callV_Rz (q := 308) (st := []) (args := [.int (I_15 43 36), .int 48, .int 57]) (p := 43) hc (m_X8_isOf hK hR) dX8_reads_305 ml_X8_417 cf_X8_isOf iv_X8_isOf (k_43 hK) (C := RX8) (T := TX8) (N := 45) rfl rfl (Nat.lt_of_succ_le (Nat.le_of_ble_eq_true rfl)) rfl rfl (Nat.le_of_ble_eq_true rfl) ⟨Nat.le_of_ble_eq_true rfl, Nat.le_of_ble_eq_true rfl⟩ rfl (fun q_16 => ?_)
    refine w_ifeq (q := 311) (tgt := 368) hc dX8_reads_308 rfl rfl ?_ ?_
    · exact hk0 I_15
    · refine w_aload_n (q := 312) (i := 0) (j := 0) hc dX8_reads_311 rfl rfl rfl ?_
      refine w_aload_n (q := 313) (i := 0) (j := 0) hc dX8_reads_312 rfl rfl rfl ?_
      refine gf_X8_414 (q := 316) hc dX8_reads_313 (k_43 hK) rfl ?_
      refine w_aload_n (q := 317) (i := 0) (j := 0) hc dX8_reads_316 rfl rfl rfl ?_
      refine gf_X8_411 (q := 320) hc dX8_reads_317 (k_43 hK) rfl ?_
      refine w_isub (q := 321) hc dX8_reads_320  rfl ?_
      refine w_iconst (q := 322) hc dX8_reads_321 ci_2 rfl ?_
      refine w_icmpge (q := 325) (tgt := 348) hc dX8_reads_322 rfl rfl ?_ ?_
      · refine w_aload_n (q := 349) (i := 0) (j := 0) hc dX8_reads_348 rfl rfl rfl ?_
        refine gf_X8_432 (q := 352) hc dX8_reads_349 (k_43 hK) rfl ?_
        refine pf_X8_432 (q := 355) hc dX8_reads_352 (k_43 hK) rfl (fun I_17 => ?_)
        refine w_aload_n (q := 356) (i := 0) (j := 0) hc dX8_reads_355 rfl rfl rfl ?_
        refine w_dup_ref (q := 357) hc dX8_reads_356  rfl ?_
        refine gf_X8_414 (q := 360) hc dX8_reads_357 (k_43 hK) rfl ?_
        refine w_iconst (q := 361) hc dX8_reads_360 ci_1 rfl ?_
        refine w_iadd (q := 362) hc dX8_reads_361  rfl ?_
        refine pf_X8_414 (q := 365) hc dX8_reads_362 (k_43 hK) rfl (fun I_18 => ?_)
        refine w_goto (tgt := 296) hc dX8_reads_365 rfl ?_
        exact ih I_18
      · refine w_bipush (q := 327) hc dX8_reads_325 cb_10 rfl ?_
        refine w_aload_n (q := 328) (i := 0) (j := 0) hc dX8_reads_327 rfl rfl rfl ?_
        refine gf_X8_432 (q := 331) hc dX8_reads_328 (k_43 hK) rfl ?_
        refine w_imul (q := 332) hc dX8_reads_331  rfl ?_
        refine w_aload_n (q := 333) (i := 0) (j := 0) hc dX8_reads_332 rfl rfl rfl ?_
        refine gf_X8_79 (q := 336) hc dX8_reads_333 (k_43 hK) (r_43_29 hR) rfl ?_
        refine w_aload_n (q := 337) (i := 0) (j := 0) hc dX8_reads_336 rfl rfl rfl ?_
        refine gf_X8_414 (q := 340) hc dX8_reads_337 (k_43 hK) rfl ?_
        refine w_bald (q := 341) hc dX8_reads_340 (k_66 hK) rfl ?_
        refine w_iadd (q := 342) hc dX8_reads_341  rfl ?_
        refine w_bipush (q := 344) hc dX8_reads_342 cb_48 rfl ?_
        refine w_isub (q := 345) hc dX8_reads_344  rfl ?_
        refine w_goto (tgt := 352) hc dX8_reads_345 rfl ?_
        refine pf_X8_432 (q := 355) hc dX8_reads_352 (k_43 hK) rfl (fun I_19 => ?_)
        refine w_aload_n (q := 356) (i := 0) (j := 0) hc dX8_reads_355 rfl rfl rfl ?_
        refine w_dup_ref (q := 357) hc dX8_reads_356  rfl ?_
        refine gf_X8_414 (q := 360) hc dX8_reads_357 (k_43 hK) rfl ?_
        refine w_iconst (q := 361) hc dX8_reads_360 ci_1 rfl ?_
        refine w_iadd (q := 362) hc dX8_reads_361  rfl ?_
        refine pf_X8_414 (q := 365) hc dX8_reads_362 (k_43 hK) rfl (fun I_20 => ?_)
        refine w_goto (tgt := 296) hc dX8_reads_365 rfl ?_
        exact ih I_20
set_option maxRecDepth 100000 in
set_option maxHeartbeats 4000000 in
theorem wl_X8_reads_169 {G : GT Mm} {rm : Nat} (hc : Cx G cX8_reads yX8_reads.cls none 2 48) (hq : RetQ G anV meV) (hK : gK G = lK rm) (hR : gR G = lR rm) (hn : gnL G = 1) (k0 : MI → ML → Option Mm) (hk0 : ∀ (I_33 : MI) (L_34 : ML), WW G 242 [(0, .ref 43)] [] I_33 L_34 (k0 I_33 L_34)) : ∀ (n : Nat) (I_26 : MI) (L_27 : ML), WW G 169 [(0, .ref 43)] [] I_26 L_27 (f_X8_reads_169 k0 n I_26 L_27) := by
  have hN : ∀ i, Nat.blt i 1 = true → i < gnL G := fun i h => hn ▸ Nat.blt_eq.mp h
  intro n
  induction n with
  | zero => intros; exact w_none _ _ _
  | succ n ih =>
    intros I_26 L_27
    rw [f_X8_reads_169]
    refine w_aload_n (q := 170) (i := 0) (j := 0) hc dX8_reads_169 rfl rfl rfl ?_
    refine w_aload_n (q := 171) (i := 0) (j := 0) hc dX8_reads_170 rfl rfl rfl ?_
    refine gf_X8_414 (q := 174) hc dX8_reads_171 (k_43 hK) rfl ?_
    refine w_bipush (q := 176) hc dX8_reads_174 cb_97 rfl ?_
    refine w_bipush (q := 178) hc dX8_reads_176 cb_122 rfl ?_
    refine w_callV_Rz (q := 181) (st := []) (args := [.int (I_26 43 36), .int 97, .int 122]) (p := 43) hc (m_X8_isOf hK hR) dX8_reads_178 ml_X8_417 cf_X8_isOf iv_X8_isOf (k_43 hK) (C := RX8) (T := TX8) (N := 45) rfl rfl (Nat.lt_of_succ_le (Nat.le_of_ble_eq_true rfl)) rfl rfl (Nat.le_of_ble_eq_true rfl) ⟨Nat.le_of_ble_eq_true rfl, Nat.le_of_ble_eq_true rfl⟩ rfl (fun q_28 => ?_)
    refine w_ifeq (q := 184) (tgt := 242) hc dX8_reads_181 rfl rfl ?_ ?_
    · exact hk0 I_26 L_27
    · refine w_aload_n (q := 185) (i := 0) (j := 0) hc dX8_reads_184 rfl rfl rfl ?_
      refine w_aload_n (q := 186) (i := 0) (j := 0) hc dX8_reads_185 rfl rfl rfl ?_
      refine gf_X8_414 (q := 189) hc dX8_reads_186 (k_43 hK) rfl ?_
      refine w_aload_n (q := 190) (i := 0) (j := 0) hc dX8_reads_189 rfl rfl rfl ?_
      refine gf_X8_411 (q := 193) hc dX8_reads_190 (k_43 hK) rfl ?_
      refine w_isub (q := 194) hc dX8_reads_193  rfl ?_
      refine w_bipush (q := 196) hc dX8_reads_194 cb_8 rfl ?_
      refine w_icmpge (q := 199) (tgt := 225) hc dX8_reads_196 rfl rfl ?_ ?_
      · refine w_lconst (q := 226) hc dX8_reads_225 cl_0 rfl ?_
        refine pf_X8_424 (q := 229) hc dX8_reads_226 (k_43 hK) rfl (fun L_29 => ?_)
        refine w_aload_n (q := 230) (i := 0) (j := 0) hc dX8_reads_229 rfl rfl rfl ?_
        refine w_dup_ref (q := 231) hc dX8_reads_230  rfl ?_
        refine gf_X8_414 (q := 234) hc dX8_reads_231 (k_43 hK) rfl ?_
        refine w_iconst (q := 235) hc dX8_reads_234 ci_1 rfl ?_
        refine w_iadd (q := 236) hc dX8_reads_235  rfl ?_
        refine pf_X8_414 (q := 239) hc dX8_reads_236 (k_43 hK) rfl (fun I_30 => ?_)
        refine w_goto (tgt := 169) hc dX8_reads_239 rfl ?_
        exact ih I_30 L_29
      · refine w_ldc2 (q := 202) hc dX8_reads_199 kl_X8_428 rfl ?_
        refine w_aload_n (q := 203) (i := 0) (j := 0) hc dX8_reads_202 rfl rfl rfl ?_
        refine gf_X8_424 (q := 206) hc dX8_reads_203 (k_43 hK) rfl ?_
        refine w_lmul (q := 207) hc dX8_reads_206  rfl ?_
        refine w_aload_n (q := 208) (i := 0) (j := 0) hc dX8_reads_207 rfl rfl rfl ?_
        refine gf_X8_79 (q := 211) hc dX8_reads_208 (k_43 hK) (r_43_29 hR) rfl ?_
        refine w_aload_n (q := 212) (i := 0) (j := 0) hc dX8_reads_211 rfl rfl rfl ?_
        refine gf_X8_414 (q := 215) hc dX8_reads_212 (k_43 hK) rfl ?_
        refine w_bald (q := 216) hc dX8_reads_215 (k_66 hK) rfl ?_
        refine w_i2l (q := 217) hc dX8_reads_216  rfl ?_
        refine w_ladd (q := 218) hc dX8_reads_217  rfl ?_
        refine w_ldc2 (q := 221) hc dX8_reads_218 kl_X8_430 rfl ?_
        refine w_lsub (q := 222) hc dX8_reads_221  rfl ?_
        refine w_goto (tgt := 226) hc dX8_reads_222 rfl ?_
        refine pf_X8_424 (q := 229) hc dX8_reads_226 (k_43 hK) rfl (fun L_31 => ?_)
        refine w_aload_n (q := 230) (i := 0) (j := 0) hc dX8_reads_229 rfl rfl rfl ?_
        refine w_dup_ref (q := 231) hc dX8_reads_230  rfl ?_
        refine gf_X8_414 (q := 234) hc dX8_reads_231 (k_43 hK) rfl ?_
        refine w_iconst (q := 235) hc dX8_reads_234 ci_1 rfl ?_
        refine w_iadd (q := 236) hc dX8_reads_235  rfl ?_
        refine pf_X8_414 (q := 239) hc dX8_reads_236 (k_43 hK) rfl (fun I_32 => ?_)
        refine w_goto (tgt := 169) hc dX8_reads_239 rfl ?_
        exact ih I_32 L_31
set_option maxRecDepth 100000 in
set_option maxHeartbeats 4000000 in
theorem wl_X8_reads_8 {G : GT Mm} {rm : Nat} (L : ML) (hc : Cx G cX8_reads yX8_reads.cls none 2 48) (hq : RetQ G anV meV) (hK : gK G = lK rm) (hR : gR G = lR rm) (hn : gnL G = 1) (k0 : MI → Option Mm) (hk0 : ∀ (I_7 : MI), WW G 51 [(0, .ref 43)] [] I_7 L (k0 I_7)) : ∀ (n : Nat) (I_2 : MI), WW G 8 [(0, .ref 43)] [] I_2 L (f_X8_reads_8 L k0 n I_2) := by
  have hN : ∀ i, Nat.blt i 1 = true → i < gnL G := fun i h => hn ▸ Nat.blt_eq.mp h
  intro n
  induction n with
  | zero => intros; exact w_none _ _ _
  | succ n ih =>
    intros I_2
    rw [f_X8_reads_8]
    refine w_aload_n (q := 9) (i := 0) (j := 0) hc dX8_reads_8 rfl rfl rfl ?_
    refine w_aload_n (q := 10) (i := 0) (j := 0) hc dX8_reads_9 rfl rfl rfl ?_
    refine gf_X8_411 (q := 13) hc dX8_reads_10 (k_43 hK) rfl ?_
    refine w_bipush (q := 15) hc dX8_reads_13 cb_32 rfl ?_
    refine w_bipush (q := 17) hc dX8_reads_15 cb_32 rfl ?_
    refine w_callV_Rz (q := 20) (st := []) (args := [.int (I_2 43 35), .int 32, .int 32]) (p := 43) hc (m_X8_isOf hK hR) dX8_reads_17 ml_X8_417 cf_X8_isOf iv_X8_isOf (k_43 hK) (C := RX8) (T := TX8) (N := 45) rfl rfl (Nat.lt_of_succ_le (Nat.le_of_ble_eq_true rfl)) rfl rfl (Nat.le_of_ble_eq_true rfl) ⟨Nat.le_of_ble_eq_true rfl, Nat.le_of_ble_eq_true rfl⟩ rfl (fun q_3 => ?_)
    refine w_ifne (q := 23) (tgt := 38) hc dX8_reads_20 rfl rfl ?_ ?_
    · refine w_aload_n (q := 24) (i := 0) (j := 0) hc dX8_reads_23 rfl rfl rfl ?_
      refine w_aload_n (q := 25) (i := 0) (j := 0) hc dX8_reads_24 rfl rfl rfl ?_
      refine gf_X8_411 (q := 28) hc dX8_reads_25 (k_43 hK) rfl ?_
      refine w_bipush (q := 30) hc dX8_reads_28 cb_10 rfl ?_
      refine w_bipush (q := 32) hc dX8_reads_30 cb_10 rfl ?_
      refine w_callV_Rz (q := 35) (st := []) (args := [.int (I_2 43 35), .int 10, .int 10]) (p := 43) hc (m_X8_isOf hK hR) dX8_reads_32 ml_X8_417 cf_X8_isOf iv_X8_isOf (k_43 hK) (C := RX8) (T := TX8) (N := 45) rfl rfl (Nat.lt_of_succ_le (Nat.le_of_ble_eq_true rfl)) rfl rfl (Nat.le_of_ble_eq_true rfl) ⟨Nat.le_of_ble_eq_true rfl, Nat.le_of_ble_eq_true rfl⟩ rfl (fun q_5 => ?_)
      refine w_ifeq (q := 38) (tgt := 51) hc dX8_reads_35 rfl rfl ?_ ?_
      · exact hk0 I_2
      · refine w_aload_n (q := 39) (i := 0) (j := 0) hc dX8_reads_38 rfl rfl rfl ?_
        refine w_dup_ref (q := 40) hc dX8_reads_39  rfl ?_
        refine gf_X8_411 (q := 43) hc dX8_reads_40 (k_43 hK) rfl ?_
        refine w_iconst (q := 44) hc dX8_reads_43 ci_1 rfl ?_
        refine w_iadd (q := 45) hc dX8_reads_44  rfl ?_
        refine pf_X8_411 (q := 48) hc dX8_reads_45 (k_43 hK) rfl (fun I_6 => ?_)
        refine w_goto (tgt := 8) hc dX8_reads_48 rfl ?_
        exact ih I_6
    · refine w_aload_n (q := 39) (i := 0) (j := 0) hc dX8_reads_38 rfl rfl rfl ?_
      refine w_dup_ref (q := 40) hc dX8_reads_39  rfl ?_
      refine gf_X8_411 (q := 43) hc dX8_reads_40 (k_43 hK) rfl ?_
      refine w_iconst (q := 44) hc dX8_reads_43 ci_1 rfl ?_
      refine w_iadd (q := 45) hc dX8_reads_44  rfl ?_
      refine pf_X8_411 (q := 48) hc dX8_reads_45 (k_43 hK) rfl (fun I_4 => ?_)
      refine w_goto (tgt := 8) hc dX8_reads_48 rfl ?_
      exact ih I_4
set_option maxRecDepth 100000 in
set_option maxHeartbeats 4000000 in
theorem m_X8_reads {l : Launch} {K : KT} {R : MR} {rm : Nat} {I : MI} {L : ML} (hK0 : K = lK rm) (hR0 : R = lR rm) : MFg l yX8_reads cX8_reads 1 none 2 48 [.ref 43] K R I L anV meV (f_X8_reads I L) := by
  refine mf_of (plainFor_of_name (by decide)) (Nat.le_of_ble_eq_true rfl) ?_
  intro G hc _ hK1 hR1 hn hq
  have hK := hK1.trans hK0
  have hR := hR1.trans hR0
  have hN : ∀ i, Nat.blt i 1 = true → i < gnL G := fun i h => hn ▸ Nat.blt_eq.mp h
  unfold f_X8_reads
  show WW G 0 [(0, .ref 43)] [] I L _
  refine w_aload_n (q := 1) (i := 0) (j := 0) hc dX8_reads_0 rfl rfl rfl ?_
  refine w_aload_n (q := 2) (i := 0) (j := 0) hc dX8_reads_1 rfl rfl rfl ?_
  refine gf_X8_414 (q := 5) hc dX8_reads_2 (k_43 hK) rfl ?_
  refine pf_X8_411 (q := 8) hc dX8_reads_5 (k_43 hK) rfl (fun I_1 => ?_)
  refine wl_X8_reads_8 L hc hq hK hR hn _ ?_ FU I_1
  intro I_7
  refine w_aload_n (q := 52) (i := 0) (j := 0) hc dX8_reads_51 rfl rfl rfl ?_
  refine w_aload_n (q := 53) (i := 0) (j := 0) hc dX8_reads_52 rfl rfl rfl ?_
  refine gf_X8_411 (q := 56) hc dX8_reads_53 (k_43 hK) rfl ?_
  refine w_iconst (q := 57) hc dX8_reads_56 ci_1 rfl ?_
  refine w_iadd (q := 58) hc dX8_reads_57  rfl ?_
  refine pf_X8_414 (q := 61) hc dX8_reads_58 (k_43 hK) rfl (fun I_8 => ?_)
  refine w_aload_n (q := 62) (i := 0) (j := 0) hc dX8_reads_61 rfl rfl rfl ?_
  refine w_aload_n (q := 63) (i := 0) (j := 0) hc dX8_reads_62 rfl rfl rfl ?_
  refine gf_X8_411 (q := 66) hc dX8_reads_63 (k_43 hK) rfl ?_
  refine w_aload_n (q := 67) (i := 0) (j := 0) hc dX8_reads_66 rfl rfl rfl ?_
  refine gf_X8_405 (q := 70) hc dX8_reads_67 (k_43 hK) rfl ?_
  refine w_join (fun j138_388 : Int32 → Option Mm => ∀ (s0_9 : Int32), WW G 138 [(0, .ref 43)] [.int s0_9, .ref 43] I_8 L (j138_388 s0_9)) ?_ ?_
  · intro s0_9
    refine pf_X8_421 (q := 141) hc dX8_reads_138 (k_43 hK) rfl (fun I_10 => ?_)
    refine w_aload_n (q := 142) (i := 0) (j := 0) hc dX8_reads_141 rfl rfl rfl ?_
    refine w_aload_n (q := 143) (i := 0) (j := 0) hc dX8_reads_142 rfl rfl rfl ?_
    refine gf_X8_411 (q := 146) hc dX8_reads_143 (k_43 hK) rfl ?_
    refine w_bipush (q := 148) hc dX8_reads_146 cb_97 rfl ?_
    refine w_bipush (q := 150) hc dX8_reads_148 cb_122 rfl ?_
    refine w_callV_Rz (q := 153) (st := []) (args := [.int (I_10 43 35), .int 97, .int 122]) (p := 43) hc (m_X8_isOf hK hR) dX8_reads_150 ml_X8_417 cf_X8_isOf iv_X8_isOf (k_43 hK) (C := RX8) (T := TX8) (N := 45) rfl rfl (Nat.lt_of_succ_le (Nat.le_of_ble_eq_true rfl)) rfl rfl (Nat.le_of_ble_eq_true rfl) ⟨Nat.le_of_ble_eq_true rfl, Nat.le_of_ble_eq_true rfl⟩ rfl (fun q_11 => ?_)
    refine w_ifeq (q := 156) (tgt := 268) hc dX8_reads_153 rfl rfl ?_ ?_
    · refine w_aload_n (q := 269) (i := 0) (j := 0) hc dX8_reads_268 rfl rfl rfl ?_
      refine w_aload_n (q := 270) (i := 0) (j := 0) hc dX8_reads_269 rfl rfl rfl ?_
      refine gf_X8_411 (q := 273) hc dX8_reads_270 (k_43 hK) rfl ?_
      refine w_bipush (q := 275) hc dX8_reads_273 cb_48 rfl ?_
      refine w_bipush (q := 277) hc dX8_reads_275 cb_57 rfl ?_
      refine w_callV_Rz (q := 280) (st := []) (args := [.int (I_10 43 35), .int 48, .int 57]) (p := 43) hc (m_X8_isOf hK hR) dX8_reads_277 ml_X8_417 cf_X8_isOf iv_X8_isOf (k_43 hK) (C := RX8) (T := TX8) (N := 45) rfl rfl (Nat.lt_of_succ_le (Nat.le_of_ble_eq_true rfl)) rfl rfl (Nat.le_of_ble_eq_true rfl) ⟨Nat.le_of_ble_eq_true rfl, Nat.le_of_ble_eq_true rfl⟩ rfl (fun q_12 => ?_)
      refine w_ifeq (q := 283) (tgt := 390) hc dX8_reads_280 rfl rfl ?_ ?_
      · exact w_return hc hq dX8_reads_390 rfl rfl
      · refine w_aload_n (q := 284) (i := 0) (j := 0) hc dX8_reads_283 rfl rfl rfl ?_
        refine w_iconst (q := 285) hc dX8_reads_284 ci_0 rfl ?_
        refine pf_X8_432 (q := 288) hc dX8_reads_285 (k_43 hK) rfl (fun I_13 => ?_)
        refine w_aload_n (q := 289) (i := 0) (j := 0) hc dX8_reads_288 rfl rfl rfl ?_
        refine w_aload_n (q := 290) (i := 0) (j := 0) hc dX8_reads_289 rfl rfl rfl ?_
        refine gf_X8_411 (q := 293) hc dX8_reads_290 (k_43 hK) rfl ?_
        refine pf_X8_414 (q := 296) hc dX8_reads_293 (k_43 hK) rfl (fun I_14 => ?_)
        refine wl_X8_reads_296 L hc hq hK hR hn _ ?_ FU I_14
        intro I_21
        refine w_aload_n (q := 369) (i := 0) (j := 0) hc dX8_reads_368 rfl rfl rfl ?_
        refine w_aload_n (q := 370) (i := 0) (j := 0) hc dX8_reads_369 rfl rfl rfl ?_
        refine gf_X8_414 (q := 373) hc dX8_reads_370 (k_43 hK) rfl ?_
        refine w_aload_n (q := 374) (i := 0) (j := 0) hc dX8_reads_373 rfl rfl rfl ?_
        refine gf_X8_411 (q := 377) hc dX8_reads_374 (k_43 hK) rfl ?_
        refine w_isub (q := 378) hc dX8_reads_377  rfl ?_
        refine w_iconst (q := 379) hc dX8_reads_378 ci_2 rfl ?_
        refine w_icmple (q := 382) (tgt := 386) hc dX8_reads_379 rfl rfl ?_ ?_
        · refine w_iconst (q := 387) hc dX8_reads_386 ci_2 rfl ?_
          refine pf_X8_421 (q := 390) hc dX8_reads_387 (k_43 hK) rfl (fun I_22 => ?_)
          exact w_return hc hq dX8_reads_390 rfl rfl
        · refine w_iconst (q := 383) hc dX8_reads_382 ci_4 rfl ?_
          refine w_goto (tgt := 387) hc dX8_reads_383 rfl ?_
          refine pf_X8_421 (q := 390) hc dX8_reads_387 (k_43 hK) rfl (fun I_23 => ?_)
          exact w_return hc hq dX8_reads_390 rfl rfl
    · refine w_aload_n (q := 157) (i := 0) (j := 0) hc dX8_reads_156 rfl rfl rfl ?_
      refine w_lconst (q := 158) hc dX8_reads_157 cl_0 rfl ?_
      refine pf_X8_424 (q := 161) hc dX8_reads_158 (k_43 hK) rfl (fun L_24 => ?_)
      refine w_aload_n (q := 162) (i := 0) (j := 0) hc dX8_reads_161 rfl rfl rfl ?_
      refine w_aload_n (q := 163) (i := 0) (j := 0) hc dX8_reads_162 rfl rfl rfl ?_
      refine gf_X8_411 (q := 166) hc dX8_reads_163 (k_43 hK) rfl ?_
      refine pf_X8_414 (q := 169) hc dX8_reads_166 (k_43 hK) rfl (fun I_25 => ?_)
      refine wl_X8_reads_169 hc hq hK hR hn _ ?_ FU I_25 L_24
      intro I_33 L_34
      refine w_aload_n (q := 243) (i := 0) (j := 0) hc dX8_reads_242 rfl rfl rfl ?_
      refine w_aload_n (q := 244) (i := 0) (j := 0) hc dX8_reads_243 rfl rfl rfl ?_
      refine gf_X8_414 (q := 247) hc dX8_reads_244 (k_43 hK) rfl ?_
      refine w_aload_n (q := 248) (i := 0) (j := 0) hc dX8_reads_247 rfl rfl rfl ?_
      refine gf_X8_411 (q := 251) hc dX8_reads_248 (k_43 hK) rfl ?_
      refine w_isub (q := 252) hc dX8_reads_251  rfl ?_
      refine w_bipush (q := 254) hc dX8_reads_252 cb_8 rfl ?_
      refine w_icmple (q := 257) (tgt := 261) hc dX8_reads_254 rfl rfl ?_ ?_
      · refine w_iconst (q := 262) hc dX8_reads_261 ci_1 rfl ?_
        refine pf_X8_421 (q := 265) hc dX8_reads_262 (k_43 hK) rfl (fun I_35 => ?_)
        refine w_goto (tgt := 390) hc dX8_reads_265 rfl ?_
        exact w_return hc hq dX8_reads_390 rfl rfl
      · refine w_iconst (q := 258) hc dX8_reads_257 ci_4 rfl ?_
        refine w_goto (tgt := 262) hc dX8_reads_258 rfl ?_
        refine pf_X8_421 (q := 265) hc dX8_reads_262 (k_43 hK) rfl (fun I_36 => ?_)
        refine w_goto (tgt := 390) hc dX8_reads_265 rfl ?_
        exact w_return hc hq dX8_reads_390 rfl rfl
  · intro j138_388 hj138_388
    refine w_icmplt (q := 73) (tgt := 77) hc dX8_reads_70 rfl rfl ?_ ?_
    · refine w_aload_n (q := 78) (i := 0) (j := 0) hc dX8_reads_77 rfl rfl rfl ?_
      refine gf_X8_79 (q := 81) hc dX8_reads_78 (k_43 hK) (r_43_29 hR) rfl ?_
      refine w_aload_n (q := 82) (i := 0) (j := 0) hc dX8_reads_81 rfl rfl rfl ?_
      refine gf_X8_411 (q := 85) hc dX8_reads_82 (k_43 hK) rfl ?_
      refine w_bald (q := 86) hc dX8_reads_85 (k_66 hK) rfl ?_
      refine w_bipush (q := 88) hc dX8_reads_86 cb_40 rfl ?_
      refine w_join (fun j133_389 : Option Mm => WW G 133 [(0, .ref 43)] [.ref 43] I_8 L (j133_389)) ?_ ?_
      · refine w_iconst (q := 134) hc dX8_reads_133 ci_3 rfl ?_
        refine w_goto (tgt := 138) hc dX8_reads_134 rfl ?_
        exact hj138_388 3
      · intro j133_389 hj133_389
        refine w_icmpeq (q := 91) (tgt := 133) hc dX8_reads_88 rfl rfl ?_ ?_
        · exact hj133_389
        · refine w_aload_n (q := 92) (i := 0) (j := 0) hc dX8_reads_91 rfl rfl rfl ?_
          refine gf_X8_79 (q := 95) hc dX8_reads_92 (k_43 hK) (r_43_29 hR) rfl ?_
          refine w_aload_n (q := 96) (i := 0) (j := 0) hc dX8_reads_95 rfl rfl rfl ?_
          refine gf_X8_411 (q := 99) hc dX8_reads_96 (k_43 hK) rfl ?_
          refine w_bald (q := 100) hc dX8_reads_99 (k_66 hK) rfl ?_
          refine w_bipush (q := 102) hc dX8_reads_100 cb_41 rfl ?_
          refine w_icmpeq (q := 105) (tgt := 133) hc dX8_reads_102 rfl rfl ?_ ?_
          · exact hj133_389
          · refine w_aload_n (q := 106) (i := 0) (j := 0) hc dX8_reads_105 rfl rfl rfl ?_
            refine gf_X8_79 (q := 109) hc dX8_reads_106 (k_43 hK) (r_43_29 hR) rfl ?_
            refine w_aload_n (q := 110) (i := 0) (j := 0) hc dX8_reads_109 rfl rfl rfl ?_
            refine gf_X8_411 (q := 113) hc dX8_reads_110 (k_43 hK) rfl ?_
            refine w_bald (q := 114) hc dX8_reads_113 (k_66 hK) rfl ?_
            refine w_bipush (q := 116) hc dX8_reads_114 cb_59 rfl ?_
            refine w_icmpeq (q := 119) (tgt := 133) hc dX8_reads_116 rfl rfl ?_ ?_
            · exact hj133_389
            · refine w_aload_n (q := 120) (i := 0) (j := 0) hc dX8_reads_119 rfl rfl rfl ?_
              refine gf_X8_79 (q := 123) hc dX8_reads_120 (k_43 hK) (r_43_29 hR) rfl ?_
              refine w_aload_n (q := 124) (i := 0) (j := 0) hc dX8_reads_123 rfl rfl rfl ?_
              refine gf_X8_411 (q := 127) hc dX8_reads_124 (k_43 hK) rfl ?_
              refine w_bald (q := 128) hc dX8_reads_127 (k_66 hK) rfl ?_
              refine w_bipush (q := 130) hc dX8_reads_128 cb_39 rfl ?_
              refine w_icmpne (q := 133) (tgt := 137) hc dX8_reads_130 rfl rfl ?_ ?_
              · exact hj133_389
              · refine w_iconst (q := 138) hc dX8_reads_137 ci_4 rfl ?_
                exact hj138_388 4
    · refine w_iconst (q := 74) hc dX8_reads_73 ci_0 rfl ?_
      refine w_goto (tgt := 138) hc dX8_reads_74 rfl ?_
      exact hj138_388 0
set_option maxRecDepth 100000 in
set_option maxHeartbeats 4000000 in
theorem m_X8_must {l : Launch} {K : KT} {R : MR} {rm : Nat} {a1 : Bool} {a2 : Int32} {I : MI} {L : ML} (hK0 : K = lK rm) (hR0 : R = lR rm) : MFg l yX8_must cX8_must 3 none 0 0 [.ref 43, .int (b2i a1), .int a2] K R I L anV meV (f_X8_must a1 a2 I L) := by
  refine mf_of (plainFor_of_name (by decide)) (Nat.le_of_ble_eq_true rfl) ?_
  intro G hc _ hK1 hR1 hn hq
  have hK := hK1.trans hK0
  have hR := hR1.trans hR0
  have hN : ∀ i, Nat.blt i 3 = true → i < gnL G := fun i h => hn ▸ Nat.blt_eq.mp h
  unfold f_X8_must
  show WW G 0 [(0, .ref 43), (1, .int (b2i a1)), (2, .int a2)] [] I L _
  refine w_iload_n (q := 1) (i := 1) (j := 1) hc dX8_must_0 rfl rfl rfl ?_
  refine w_ifne (q := 4) (tgt := 11) hc dX8_must_1 rfl rfl ?_ ?_
  · refine w_aload_n (q := 5) (i := 0) (j := 0) hc dX8_must_4 rfl rfl rfl ?_
    refine gf_X8_435 (q := 8) hc dX8_must_5 (k_43 hK) rfl ?_
    refine w_ifle (q := 11) (tgt := 12) hc dX8_must_8 rfl rfl ?_ ?_
    · refine w_aload_n (q := 13) (i := 0) (j := 0) hc dX8_must_12 rfl rfl rfl ?_
      refine w_iload_n (q := 14) (i := 2) (j := 2) hc dX8_must_13 rfl rfl rfl ?_
      refine w_iconst (q := 15) hc dX8_must_14 ci_2 rfl ?_
      refine w_icmpne (q := 18) (tgt := 30) hc dX8_must_15 rfl rfl ?_ ?_
      · refine w_aload_n (q := 19) (i := 0) (j := 0) hc dX8_must_18 rfl rfl rfl ?_
        refine gf_X8_421 (q := 22) hc dX8_must_19 (k_43 hK) rfl ?_
        refine w_iconst (q := 23) hc dX8_must_22 ci_4 rfl ?_
        refine w_icmpne (q := 26) (tgt := 30) hc dX8_must_23 rfl rfl ?_ ?_
        · refine w_iconst (q := 27) hc dX8_must_26 ci_1 rfl ?_
          refine w_goto (tgt := 31) hc dX8_must_27 rfl ?_
          refine pf_X8_435 (q := 34) hc dX8_must_31 (k_43 hK) rfl (fun I_5 => ?_)
          refine w_aload_n (q := 35) (i := 0) (j := 0) hc dX8_must_34 rfl rfl rfl ?_
          refine w_aload_n (q := 36) (i := 0) (j := 0) hc dX8_must_35 rfl rfl rfl ?_
          refine gf_X8_411 (q := 39) hc dX8_must_36 (k_43 hK) rfl ?_
          refine pf_X8_438 (q := 42) hc dX8_must_39 (k_43 hK) rfl (fun I_6 => ?_)
          exact w_return hc hq dX8_must_42 rfl rfl
        · refine w_iload_n (q := 31) (i := 2) (j := 2) hc dX8_must_30 rfl rfl rfl ?_
          refine pf_X8_435 (q := 34) hc dX8_must_31 (k_43 hK) rfl (fun I_3 => ?_)
          refine w_aload_n (q := 35) (i := 0) (j := 0) hc dX8_must_34 rfl rfl rfl ?_
          refine w_aload_n (q := 36) (i := 0) (j := 0) hc dX8_must_35 rfl rfl rfl ?_
          refine gf_X8_411 (q := 39) hc dX8_must_36 (k_43 hK) rfl ?_
          refine pf_X8_438 (q := 42) hc dX8_must_39 (k_43 hK) rfl (fun I_4 => ?_)
          exact w_return hc hq dX8_must_42 rfl rfl
      · refine w_iload_n (q := 31) (i := 2) (j := 2) hc dX8_must_30 rfl rfl rfl ?_
        refine pf_X8_435 (q := 34) hc dX8_must_31 (k_43 hK) rfl (fun I_1 => ?_)
        refine w_aload_n (q := 35) (i := 0) (j := 0) hc dX8_must_34 rfl rfl rfl ?_
        refine w_aload_n (q := 36) (i := 0) (j := 0) hc dX8_must_35 rfl rfl rfl ?_
        refine gf_X8_411 (q := 39) hc dX8_must_36 (k_43 hK) rfl ?_
        refine pf_X8_438 (q := 42) hc dX8_must_39 (k_43 hK) rfl (fun I_2 => ?_)
        exact w_return hc hq dX8_must_42 rfl rfl
    · exact w_return hc hq dX8_must_11 rfl rfl
  · exact w_return hc hq dX8_must_11 rfl rfl
set_option maxRecDepth 100000 in
set_option maxHeartbeats 4000000 in
theorem m_X8_goesOn {l : Launch} {K : KT} {R : MR} {rm : Nat} {I : MI} {L : ML} (hK0 : K = lK rm) (hR0 : R = lR rm) : MFg l yX8_goesOn cX8_goesOn 1 none 3 68 [.ref 43] K R I L anV meV (f_X8_goesOn I L) := by
  refine mf_of (plainFor_of_name (by decide)) (Nat.le_of_ble_eq_true rfl) ?_
  intro G hc _ hK1 hR1 hn hq
  have hK := hK1.trans hK0
  have hR := hR1.trans hR0
  have hN : ∀ i, Nat.blt i 1 = true → i < gnL G := fun i h => hn ▸ Nat.blt_eq.mp h
  unfold f_X8_goesOn
  show WW G 0 [(0, .ref 43)] [] I L _
  refine w_aload_n (q := 1) (i := 0) (j := 0) hc dX8_goesOn_0 rfl rfl rfl ?_
  refine w_callV_Rz (q := 4) (st := []) (args := []) (p := 43) hc (m_X8_good hK hR) dX8_goesOn_1 ml_X8_408 cf_X8_good iv_X8_good (k_43 hK) (C := RX8) (T := TX8) (N := 45) rfl rfl (Nat.lt_of_succ_le (Nat.le_of_ble_eq_true rfl)) rfl rfl (Nat.le_of_ble_eq_true rfl) ⟨Nat.le_of_ble_eq_true rfl, Nat.le_of_ble_eq_true rfl⟩ rfl (fun q_1 => ?_)
  refine w_ifeq (q := 7) (tgt := 11) hc dX8_goesOn_4 rfl rfl ?_ ?_
  · exact w_return hc hq dX8_goesOn_11 rfl rfl
  · refine w_aload_n (q := 8) (i := 0) (j := 0) hc dX8_goesOn_7 rfl rfl rfl ?_
    refine w_callV_Wv (q := 11) (st := []) (args := []) (p := 43) hc (m_X8_reads hK hR) dX8_goesOn_8 ml_X8_441 cf_X8_reads iv_X8_reads (k_43 hK) (C := RX8) (T := TX8) (N := 45) rfl rfl (Nat.lt_of_succ_le (Nat.le_of_ble_eq_true rfl)) rfl rfl (Nat.le_of_ble_eq_true rfl) ⟨Nat.le_of_ble_eq_true rfl, Nat.le_of_ble_eq_true rfl⟩ rfl (fun q_2 => ?_)
    exact w_return hc hq dX8_goesOn_11 rfl rfl
set_option maxRecDepth 100000 in
set_option maxHeartbeats 4000000 in
theorem m_X8_isWord {l : Launch} {K : KT} {R : MR} {rm : Nat} {a1 : Int64} {I : MI} {L : ML} (hK0 : K = lK rm) (hR0 : R = lR rm) : MFg l yX8_isWord cX8_isWord 3 (some .boolean) 1 20 [.ref 43, .long a1] K R I L anZ (meR I L) (f_X8_isWord a1 I L) := by
  refine mf_of (plainFor_of_name (by decide)) (Nat.le_of_ble_eq_true rfl) ?_
  intro G hc _ hK1 hR1 hn hq
  have hK := hK1.trans hK0
  have hR := hR1.trans hR0
  have hN : ∀ i, Nat.blt i 3 = true → i < gnL G := fun i h => hn ▸ Nat.blt_eq.mp h
  unfold f_X8_isWord
  show WW G 0 [(0, .ref 43), (1, .long a1)] [] I L _
  refine w_aload_n (q := 1) (i := 0) (j := 0) hc dX8_isWord_0 rfl rfl rfl ?_
  refine w_callV_Rz (q := 4) (st := []) (args := []) (p := 43) hc (m_X8_good hK hR) dX8_isWord_1 ml_X8_408 cf_X8_good iv_X8_good (k_43 hK) (C := RX8) (T := TX8) (N := 45) rfl rfl (Nat.lt_of_succ_le (Nat.le_of_ble_eq_true rfl)) rfl rfl (Nat.le_of_ble_eq_true rfl) ⟨Nat.le_of_ble_eq_true rfl, Nat.le_of_ble_eq_true rfl⟩ rfl (fun q_1 => ?_)
  refine w_ifeq (q := 7) (tgt := 28) hc dX8_isWord_4 rfl rfl ?_ ?_
  · refine w_iconst (q := 29) hc dX8_isWord_28 ci_0 rfl ?_
    exact w_ireturn (v := b2i false) hc hq dX8_isWord_29 (nar_b2i false) rfl rfl
  · refine w_aload_n (q := 8) (i := 0) (j := 0) hc dX8_isWord_7 rfl rfl rfl ?_
    refine gf_X8_421 (q := 11) hc dX8_isWord_8 (k_43 hK) rfl ?_
    refine w_iconst (q := 12) hc dX8_isWord_11 ci_1 rfl ?_
    refine w_icmpne (q := 15) (tgt := 28) hc dX8_isWord_12 rfl rfl ?_ ?_
    · refine w_aload_n (q := 16) (i := 0) (j := 0) hc dX8_isWord_15 rfl rfl rfl ?_
      refine gf_X8_424 (q := 19) hc dX8_isWord_16 (k_43 hK) rfl ?_
      refine w_lload_n (q := 20) (i := 1) (j := 1) hc dX8_isWord_19 rfl rfl rfl ?_
      refine w_lcmp (q := 21) hc dX8_isWord_20  rfl ?_
      refine w_ifne (q := 24) (tgt := 28) hc dX8_isWord_21 rfl rfl ?_ ?_
      · refine w_iconst (q := 25) hc dX8_isWord_24 ci_1 rfl ?_
        refine w_goto (tgt := 29) hc dX8_isWord_25 rfl ?_
        exact w_ireturn (v := b2i true) hc hq dX8_isWord_29 (nar_b2i true) rfl rfl
      · refine w_iconst (q := 29) hc dX8_isWord_28 ci_0 rfl ?_
        exact w_ireturn (v := b2i false) hc hq dX8_isWord_29 (nar_b2i false) rfl rfl
    · refine w_iconst (q := 29) hc dX8_isWord_28 ci_0 rfl ?_
      exact w_ireturn (v := b2i false) hc hq dX8_isWord_29 (nar_b2i false) rfl rfl
set_option maxRecDepth 100000 in
set_option maxHeartbeats 4000000 in
theorem m_X8_isName {l : Launch} {K : KT} {R : MR} {rm : Nat} {I : MI} {L : ML} (hK0 : K = lK rm) (hR0 : R = lR rm) : MFg l yX8_isName cX8_isName 1 (some .boolean) 1 20 [.ref 43] K R I L anZ (meR I L) (f_X8_isName I L) := by
  refine mf_of (plainFor_of_name (by decide)) (Nat.le_of_ble_eq_true rfl) ?_
  intro G hc _ hK1 hR1 hn hq
  have hK := hK1.trans hK0
  have hR := hR1.trans hR0
  have hN : ∀ i, Nat.blt i 1 = true → i < gnL G := fun i h => hn ▸ Nat.blt_eq.mp h
  unfold f_X8_isName
  show WW G 0 [(0, .ref 43)] [] I L _
  refine w_aload_n (q := 1) (i := 0) (j := 0) hc dX8_isName_0 rfl rfl rfl ?_
  refine w_callV_Rz (q := 4) (st := []) (args := []) (p := 43) hc (m_X8_good hK hR) dX8_isName_1 ml_X8_408 cf_X8_good iv_X8_good (k_43 hK) (C := RX8) (T := TX8) (N := 45) rfl rfl (Nat.lt_of_succ_le (Nat.le_of_ble_eq_true rfl)) rfl rfl (Nat.le_of_ble_eq_true rfl) ⟨Nat.le_of_ble_eq_true rfl, Nat.le_of_ble_eq_true rfl⟩ rfl (fun q_1 => ?_)
  refine w_ifeq (q := 7) (tgt := 52) hc dX8_isName_4 rfl rfl ?_ ?_
  · refine w_iconst (q := 53) hc dX8_isName_52 ci_0 rfl ?_
    exact w_ireturn (v := b2i false) hc hq dX8_isName_53 (nar_b2i false) rfl rfl
  · refine w_aload_n (q := 8) (i := 0) (j := 0) hc dX8_isName_7 rfl rfl rfl ?_
    refine gf_X8_421 (q := 11) hc dX8_isName_8 (k_43 hK) rfl ?_
    refine w_iconst (q := 12) hc dX8_isName_11 ci_1 rfl ?_
    refine w_icmpne (q := 15) (tgt := 52) hc dX8_isName_12 rfl rfl ?_ ?_
    · refine w_aload_n (q := 16) (i := 0) (j := 0) hc dX8_isName_15 rfl rfl rfl ?_
      refine gf_X8_424 (q := 19) hc dX8_isName_16 (k_43 hK) rfl ?_
      refine w_ldc2 (q := 22) hc dX8_isName_19 kl_X8_444 rfl ?_
      refine w_lcmp (q := 23) hc dX8_isName_22  rfl ?_
      refine w_ifeq (q := 26) (tgt := 52) hc dX8_isName_23 rfl rfl ?_ ?_
      · refine w_iconst (q := 53) hc dX8_isName_52 ci_0 rfl ?_
        exact w_ireturn (v := b2i false) hc hq dX8_isName_53 (nar_b2i false) rfl rfl
      · refine w_aload_n (q := 27) (i := 0) (j := 0) hc dX8_isName_26 rfl rfl rfl ?_
        refine gf_X8_424 (q := 30) hc dX8_isName_27 (k_43 hK) rfl ?_
        refine w_ldc2 (q := 33) hc dX8_isName_30 kl_X8_446 rfl ?_
        refine w_lcmp (q := 34) hc dX8_isName_33  rfl ?_
        refine w_ifeq (q := 37) (tgt := 52) hc dX8_isName_34 rfl rfl ?_ ?_
        · refine w_iconst (q := 53) hc dX8_isName_52 ci_0 rfl ?_
          exact w_ireturn (v := b2i false) hc hq dX8_isName_53 (nar_b2i false) rfl rfl
        · refine w_aload_n (q := 38) (i := 0) (j := 0) hc dX8_isName_37 rfl rfl rfl ?_
          refine gf_X8_424 (q := 41) hc dX8_isName_38 (k_43 hK) rfl ?_
          refine w_ldc2 (q := 44) hc dX8_isName_41 kl_X8_448 rfl ?_
          refine w_lcmp (q := 45) hc dX8_isName_44  rfl ?_
          refine w_ifeq (q := 48) (tgt := 52) hc dX8_isName_45 rfl rfl ?_ ?_
          · refine w_iconst (q := 53) hc dX8_isName_52 ci_0 rfl ?_
            exact w_ireturn (v := b2i false) hc hq dX8_isName_53 (nar_b2i false) rfl rfl
          · refine w_iconst (q := 49) hc dX8_isName_48 ci_1 rfl ?_
            refine w_goto (tgt := 53) hc dX8_isName_49 rfl ?_
            exact w_ireturn (v := b2i true) hc hq dX8_isName_53 (nar_b2i true) rfl rfl
    · refine w_iconst (q := 53) hc dX8_isName_52 ci_0 rfl ?_
      exact w_ireturn (v := b2i false) hc hq dX8_isName_53 (nar_b2i false) rfl rfl
set_option maxRecDepth 100000 in
set_option maxHeartbeats 4000000 in
theorem wl_X8_nameNow_2 {G : GT Int32} {rm : Nat} (I : MI) (L : ML) (hc : Cx G cX8_nameNow yX8_nameNow.cls (some .int) 0 0) (hq : RetQ G anI (meR I L)) (hK : gK G = lK rm) (hR : gR G = lR rm) (hn : gnL G = 2) : ∀ (n : Nat) (v1_1 : Int32), WW G 2 [(0, .ref 43), (1, .int v1_1)] [] I L (f_X8_nameNow_2 I L n v1_1) := by
  have hN : ∀ i, Nat.blt i 2 = true → i < gnL G := fun i h => hn ▸ Nat.blt_eq.mp h
  intro n
  induction n with
  | zero => intros; exact w_none _ _ _
  | succ n ih =>
    intros v1_1
    rw [f_X8_nameNow_2]
    refine w_iload_n (q := 3) (i := 1) (j := 1) hc dX8_nameNow_2 rfl rfl rfl ?_
    refine w_aload_n (q := 4) (i := 0) (j := 0) hc dX8_nameNow_3 rfl rfl rfl ?_
    refine gf_X8_450 (q := 7) hc dX8_nameNow_4 (k_43 hK) rfl ?_
    refine w_icmpge (q := 10) (tgt := 32) hc dX8_nameNow_7 rfl rfl ?_ ?_
    · refine w_iconst (q := 33) hc dX8_nameNow_32 ci_m1 rfl ?_
      exact w_ireturn (v := (-1)) hc hq dX8_nameNow_33 rfl rfl rfl
    · refine w_aload_n (q := 11) (i := 0) (j := 0) hc dX8_nameNow_10 rfl rfl rfl ?_
      refine gf_X8_89 (q := 14) hc dX8_nameNow_11 (k_43 hK) (r_43_43 hR) rfl ?_
      refine w_iload_n (q := 15) (i := 1) (j := 1) hc dX8_nameNow_14 rfl rfl rfl ?_
      refine w_lald (q := 16) hc dX8_nameNow_15 (k_67 hK) rfl ?_
      refine w_aload_n (q := 17) (i := 0) (j := 0) hc dX8_nameNow_16 rfl rfl rfl ?_
      refine gf_X8_424 (q := 20) hc dX8_nameNow_17 (k_43 hK) rfl ?_
      refine w_lcmp (q := 21) hc dX8_nameNow_20  rfl ?_
      refine w_ifne (q := 24) (tgt := 26) hc dX8_nameNow_21 rfl rfl ?_ ?_
      · refine w_iload_n (q := 25) (i := 1) (j := 1) hc dX8_nameNow_24 rfl rfl rfl ?_
        exact w_ireturn (v := v1_1) hc hq dX8_nameNow_25 rfl rfl rfl
      · refine w_iincB (q := 29) (i := 1) (j := 1) (lv' := fun v1_2 => [(1, .int v1_2), (0, .ref 43)]) hc dX8_nameNow_26 rfl ci_1 (hN 1 rfl) (fun _ => rfl) rfl (fun v1_2 => ?_)
        refine w_goto (tgt := 2) hc dX8_nameNow_29 rfl ?_
        refine w_sub [1, 0] rfl ?_
        exact ih v1_2
set_option maxRecDepth 100000 in
set_option maxHeartbeats 4000000 in
theorem m_X8_nameNow {l : Launch} {K : KT} {R : MR} {rm : Nat} {I : MI} {L : ML} (hK0 : K = lK rm) (hR0 : R = lR rm) : MFg l yX8_nameNow cX8_nameNow 2 (some .int) 0 0 [.ref 43] K R I L anI (meR I L) (f_X8_nameNow I L) := by
  refine mf_of (plainFor_of_name (by decide)) (Nat.le_of_ble_eq_true rfl) ?_
  intro G hc _ hK1 hR1 hn hq
  have hK := hK1.trans hK0
  have hR := hR1.trans hR0
  have hN : ∀ i, Nat.blt i 2 = true → i < gnL G := fun i h => hn ▸ Nat.blt_eq.mp h
  unfold f_X8_nameNow
  show WW G 0 [(0, .ref 43)] [] I L _
  refine w_iconst (q := 1) hc dX8_nameNow_0 ci_0 rfl ?_
  refine w_istore_n (q := 2) (i := 1) (lv' := [(1, .int 0), (0, .ref 43)]) hc dX8_nameNow_1 rfl (hN 1 rfl) rfl rfl ?_
  refine w_sub [1, 0] rfl ?_
  exact wl_X8_nameNow_2 I L hc hq hK hR hn FU 0
set_option maxRecDepth 100000 in
set_option maxHeartbeats 4000000 in
theorem m_X8_takesNew {l : Launch} {K : KT} {R : MR} {rm : Nat} {I : MI} {L : ML} (hK0 : K = lK rm) (hR0 : R = lR rm) : MFg l yX8_takesNew cX8_takesNew 1 none 4 88 [.ref 43] K R I L anV meV (f_X8_takesNew I L) := by
  refine mf_of (plainFor_of_name (by decide)) (Nat.le_of_ble_eq_true rfl) ?_
  intro G hc _ hK1 hR1 hn hq
  have hK := hK1.trans hK0
  have hR := hR1.trans hR0
  have hN : ∀ i, Nat.blt i 1 = true → i < gnL G := fun i h => hn ▸ Nat.blt_eq.mp h
  unfold f_X8_takesNew
  show WW G 0 [(0, .ref 43)] [] I L _
  refine w_aload_n (q := 1) (i := 0) (j := 0) hc dX8_takesNew_0 rfl rfl rfl ?_
  refine w_aload_n (q := 2) (i := 0) (j := 0) hc dX8_takesNew_1 rfl rfl rfl ?_
  refine gf_X8_450 (q := 5) hc dX8_takesNew_2 (k_43 hK) rfl ?_
  refine w_bipush (q := 7) hc dX8_takesNew_5 cb_6 rfl ?_
  refine w_join (fun j15_395 : Bool → Option Mm => ∀ (s0_1 : Bool), WW G 15 [(0, .ref 43)] [.int (b2i s0_1), .ref 43] I L (j15_395 s0_1)) ?_ ?_
  · intro s0_1
    refine w_iconst (q := 16) hc dX8_takesNew_15 ci_5 rfl ?_
    refine w_callV_Wv (q := 19) (st := []) (args := [.int (b2i s0_1), .int 5]) (p := 43) hc (m_X8_must hK hR) dX8_takesNew_16 ml_X8_453 cf_X8_must iv_X8_must (k_43 hK) (C := RX8) (T := TX8) (N := 45) rfl rfl (Nat.lt_of_succ_le (Nat.le_of_ble_eq_true rfl)) rfl rfl (Nat.le_of_ble_eq_true rfl) ⟨Nat.le_of_ble_eq_true rfl, Nat.le_of_ble_eq_true rfl⟩ rfl (fun q_2 => ?_)
    refine w_aload_n (q := 20) (i := 0) (j := 0) hc dX8_takesNew_19 rfl rfl rfl ?_
    refine w_callV_Wv (q := 23) (st := []) (args := []) (p := 43) hc (m_X8_goesOn hK hR) dX8_takesNew_20 ml_X8_457 cf_X8_goesOn iv_X8_goesOn (k_43 hK) (C := RX8) (T := TX8) (N := 45) rfl rfl (Nat.lt_of_succ_le (Nat.le_of_ble_eq_true rfl)) rfl rfl (Nat.le_of_ble_eq_true rfl) ⟨Nat.le_of_ble_eq_true rfl, Nat.le_of_ble_eq_true rfl⟩ rfl (fun q_3 => ?_)
    refine w_aload_n (q := 24) (i := 0) (j := 0) hc dX8_takesNew_23 rfl rfl rfl ?_
    refine w_aload_n (q := 25) (i := 0) (j := 0) hc dX8_takesNew_24 rfl rfl rfl ?_
    refine w_callV_Rz (q := 28) (st := [.ref 43]) (args := []) (p := 43) hc (m_X8_isName hK hR) dX8_takesNew_25 ml_X8_460 cf_X8_isName iv_X8_isName (k_43 hK) (C := RX8) (T := TX8) (N := 45) rfl rfl (Nat.lt_of_succ_le (Nat.le_of_ble_eq_true rfl)) rfl rfl (Nat.le_of_ble_eq_true rfl) ⟨Nat.le_of_ble_eq_true rfl, Nat.le_of_ble_eq_true rfl⟩ rfl (fun q_4 => ?_)
    refine w_iconst (q := 29) hc dX8_takesNew_28 ci_2 rfl ?_
    refine w_callV_Wv (q := 32) (st := []) (args := [.int (b2i q_4), .int 2]) (p := 43) hc (m_X8_must hK hR) dX8_takesNew_29 ml_X8_453 cf_X8_must iv_X8_must (k_43 hK) (C := RX8) (T := TX8) (N := 45) rfl rfl (Nat.lt_of_succ_le (Nat.le_of_ble_eq_true rfl)) rfl rfl (Nat.le_of_ble_eq_true rfl) ⟨Nat.le_of_ble_eq_true rfl, Nat.le_of_ble_eq_true rfl⟩ rfl (fun q_5 => ?_)
    refine w_aload_n (q := 33) (i := 0) (j := 0) hc dX8_takesNew_32 rfl rfl rfl ?_
    refine w_aload_n (q := 34) (i := 0) (j := 0) hc dX8_takesNew_33 rfl rfl rfl ?_
    refine w_callV_Ri (q := 37) (st := [.ref 43]) (args := []) (p := 43) hc (m_X8_nameNow hK hR) dX8_takesNew_34 ml_X8_463 cf_X8_nameNow iv_X8_nameNow (k_43 hK) (C := RX8) (T := TX8) (N := 45) rfl rfl (Nat.lt_of_succ_le (Nat.le_of_ble_eq_true rfl)) rfl rfl (Nat.le_of_ble_eq_true rfl) ⟨Nat.le_of_ble_eq_true rfl, Nat.le_of_ble_eq_true rfl⟩ rfl (fun q_6 => ?_)
    refine w_iconst (q := 38) hc dX8_takesNew_37 ci_m1 rfl ?_
    refine w_join (fun j46_396 : Bool → Option Mm => ∀ (s0_7 : Bool), WW G 46 [(0, .ref 43)] [.int (b2i s0_7), .ref 43] q_5.1 q_5.2 (j46_396 s0_7)) ?_ ?_
    · intro s0_7
      refine w_iconst (q := 47) hc dX8_takesNew_46 ci_4 rfl ?_
      refine w_callV_Wv (q := 50) (st := []) (args := [.int (b2i s0_7), .int 4]) (p := 43) hc (m_X8_must hK hR) dX8_takesNew_47 ml_X8_453 cf_X8_must iv_X8_must (k_43 hK) (C := RX8) (T := TX8) (N := 45) rfl rfl (Nat.lt_of_succ_le (Nat.le_of_ble_eq_true rfl)) rfl rfl (Nat.le_of_ble_eq_true rfl) ⟨Nat.le_of_ble_eq_true rfl, Nat.le_of_ble_eq_true rfl⟩ rfl (fun q_8 => ?_)
      refine w_aload_n (q := 51) (i := 0) (j := 0) hc dX8_takesNew_50 rfl rfl rfl ?_
      refine w_callV_Rz (q := 54) (st := []) (args := []) (p := 43) hc (m_X8_good hK hR) dX8_takesNew_51 ml_X8_408 cf_X8_good iv_X8_good (k_43 hK) (C := RX8) (T := TX8) (N := 45) rfl rfl (Nat.lt_of_succ_le (Nat.le_of_ble_eq_true rfl)) rfl rfl (Nat.le_of_ble_eq_true rfl) ⟨Nat.le_of_ble_eq_true rfl, Nat.le_of_ble_eq_true rfl⟩ rfl (fun q_9 => ?_)
      refine w_ifne (q := 57) (tgt := 58) hc dX8_takesNew_54 rfl rfl ?_ ?_
      · exact w_return hc hq dX8_takesNew_57 rfl rfl
      · refine w_aload_n (q := 59) (i := 0) (j := 0) hc dX8_takesNew_58 rfl rfl rfl ?_
        refine gf_X8_89 (q := 62) hc dX8_takesNew_59 (k_43 hK) (r_43_43 hR) rfl ?_
        refine w_aload_n (q := 63) (i := 0) (j := 0) hc dX8_takesNew_62 rfl rfl rfl ?_
        refine gf_X8_450 (q := 66) hc dX8_takesNew_63 (k_43 hK) rfl ?_
        refine w_aload_n (q := 67) (i := 0) (j := 0) hc dX8_takesNew_66 rfl rfl rfl ?_
        refine gf_X8_424 (q := 70) hc dX8_takesNew_67 (k_43 hK) rfl ?_
        refine w_last (q := 71) hc dX8_takesNew_70 (k_67 hK) rfl (fun L_10 => ?_)
        refine w_aload_n (q := 72) (i := 0) (j := 0) hc dX8_takesNew_71 rfl rfl rfl ?_
        refine gf_X8_22 (q := 75) hc dX8_takesNew_72 (k_43 hK) (r_43_8 hR) rfl ?_
        refine w_callS_Wv (q := 78) (st := []) (args := [.ref 48]) hc (m_X8_isHome hK hR (kB hK (k_48 hK))) dX8_takesNew_75 ml_X8_96 cf_X8_isHome st_X8_isHome rfl rfl (Nat.le_of_ble_eq_true rfl) ⟨Nat.le_of_ble_eq_true rfl, Nat.le_of_ble_eq_true rfl⟩ rfl (fun q_11 => ?_)
        refine w_aload_n (q := 79) (i := 0) (j := 0) hc dX8_takesNew_78 rfl rfl rfl ?_
        refine w_callV_Wv (q := 82) (st := []) (args := []) (p := 43) hc (m_X8_reads hK hR) dX8_takesNew_79 ml_X8_441 cf_X8_reads iv_X8_reads (k_43 hK) (C := RX8) (T := TX8) (N := 45) rfl rfl (Nat.lt_of_succ_le (Nat.le_of_ble_eq_true rfl)) rfl rfl (Nat.le_of_ble_eq_true rfl) ⟨Nat.le_of_ble_eq_true rfl, Nat.le_of_ble_eq_true rfl⟩ rfl (fun q_12 => ?_)
        exact w_return hc hq dX8_takesNew_82 rfl rfl
    · intro j46_396 hj46_396
      refine w_icmpne (q := 41) (tgt := 45) hc dX8_takesNew_38 rfl rfl ?_ ?_
      · refine w_iconst (q := 42) hc dX8_takesNew_41 ci_1 rfl ?_
        refine w_goto (tgt := 46) hc dX8_takesNew_42 rfl ?_
        exact hj46_396 true
      · refine w_iconst (q := 46) hc dX8_takesNew_45 ci_0 rfl ?_
        exact hj46_396 false
  · intro j15_395 hj15_395
    refine w_icmpge (q := 10) (tgt := 14) hc dX8_takesNew_7 rfl rfl ?_ ?_
    · refine w_iconst (q := 15) hc dX8_takesNew_14 ci_0 rfl ?_
      exact hj15_395 false
    · refine w_iconst (q := 11) hc dX8_takesNew_10 ci_1 rfl ?_
      refine w_goto (tgt := 15) hc dX8_takesNew_11 rfl ?_
      exact hj15_395 true
set_option maxRecDepth 100000 in
set_option maxHeartbeats 4000000 in
theorem m_X8_readsPoints {l : Launch} {K : KT} {R : MR} {rm : Nat} {I : MI} {L : ML} (hK0 : K = lK rm) (hR0 : R = lR rm) : MFg l yX8_readsPoints cX8_readsPoints 1 none 4 88 [.ref 43] K R I L anV meV (f_X8_readsPoints I L) := by
  refine mf_of (plainFor_of_name (by decide)) (Nat.le_of_ble_eq_true rfl) ?_
  intro G hc _ hK1 hR1 hn hq
  have hK := hK1.trans hK0
  have hR := hR1.trans hR0
  have hN : ∀ i, Nat.blt i 1 = true → i < gnL G := fun i h => hn ▸ Nat.blt_eq.mp h
  unfold f_X8_readsPoints
  show WW G 0 [(0, .ref 43)] [] I L _
  refine w_aload_n (q := 1) (i := 0) (j := 0) hc dX8_readsPoints_0 rfl rfl rfl ?_
  refine w_aload_n (q := 2) (i := 0) (j := 0) hc dX8_readsPoints_1 rfl rfl rfl ?_
  refine gf_X8_466 (q := 5) hc dX8_readsPoints_2 (k_43 hK) rfl ?_
  refine w_join (fun j13_397 : Bool → Option Mm => ∀ (s0_1 : Bool), WW G 13 [(0, .ref 43)] [.int (b2i s0_1), .ref 43] I L (j13_397 s0_1)) ?_ ?_
  · intro s0_1
    refine w_iconst (q := 14) hc dX8_readsPoints_13 ci_2 rfl ?_
    refine w_callV_Wv (q := 17) (st := []) (args := [.int (b2i s0_1), .int 2]) (p := 43) hc (m_X8_must hK hR) dX8_readsPoints_14 ml_X8_453 cf_X8_must iv_X8_must (k_43 hK) (C := RX8) (T := TX8) (N := 45) rfl rfl (Nat.lt_of_succ_le (Nat.le_of_ble_eq_true rfl)) rfl rfl (Nat.le_of_ble_eq_true rfl) ⟨Nat.le_of_ble_eq_true rfl, Nat.le_of_ble_eq_true rfl⟩ rfl (fun q_2 => ?_)
    refine w_aload_n (q := 18) (i := 0) (j := 0) hc dX8_readsPoints_17 rfl rfl rfl ?_
    refine w_callV_Wv (q := 21) (st := []) (args := []) (p := 43) hc (m_X8_goesOn hK hR) dX8_readsPoints_18 ml_X8_457 cf_X8_goesOn iv_X8_goesOn (k_43 hK) (C := RX8) (T := TX8) (N := 45) rfl rfl (Nat.lt_of_succ_le (Nat.le_of_ble_eq_true rfl)) rfl rfl (Nat.le_of_ble_eq_true rfl) ⟨Nat.le_of_ble_eq_true rfl, Nat.le_of_ble_eq_true rfl⟩ rfl (fun q_3 => ?_)
    refine w_aload_n (q := 22) (i := 0) (j := 0) hc dX8_readsPoints_21 rfl rfl rfl ?_
    refine w_aload_n (q := 23) (i := 0) (j := 0) hc dX8_readsPoints_22 rfl rfl rfl ?_
    refine gf_X8_421 (q := 26) hc dX8_readsPoints_23 (k_43 hK) rfl ?_
    refine w_iconst (q := 27) hc dX8_readsPoints_26 ci_2 rfl ?_
    refine w_join (fun j35_398 : Bool → Option Mm => ∀ (s0_4 : Bool), WW G 35 [(0, .ref 43)] [.int (b2i s0_4), .ref 43] q_3.1 q_3.2 (j35_398 s0_4)) ?_ ?_
    · intro s0_4
      refine w_iconst (q := 36) hc dX8_readsPoints_35 ci_2 rfl ?_
      refine w_callV_Wv (q := 39) (st := []) (args := [.int (b2i s0_4), .int 2]) (p := 43) hc (m_X8_must hK hR) dX8_readsPoints_36 ml_X8_453 cf_X8_must iv_X8_must (k_43 hK) (C := RX8) (T := TX8) (N := 45) rfl rfl (Nat.lt_of_succ_le (Nat.le_of_ble_eq_true rfl)) rfl rfl (Nat.le_of_ble_eq_true rfl) ⟨Nat.le_of_ble_eq_true rfl, Nat.le_of_ble_eq_true rfl⟩ rfl (fun q_5 => ?_)
      refine w_aload_n (q := 40) (i := 0) (j := 0) hc dX8_readsPoints_39 rfl rfl rfl ?_
      refine w_aload_n (q := 41) (i := 0) (j := 0) hc dX8_readsPoints_40 rfl rfl rfl ?_
      refine gf_X8_432 (q := 44) hc dX8_readsPoints_41 (k_43 hK) rfl ?_
      refine w_i2l (q := 45) hc dX8_readsPoints_44  rfl ?_
      refine w_ldc2 (q := 48) hc dX8_readsPoints_45 kl_X8_469 rfl ?_
      refine w_ldc2 (q := 51) hc dX8_readsPoints_48 kl_X8_124 rfl ?_
      refine w_callS_Rz (q := 54) (st := [.ref 43]) (args := [.long (Int32.toInt64 (q_5.1 43 38)), .long 2, .long 10]) hc (m_X8_isIn hK hR) dX8_readsPoints_51 ml_X8_114 cf_X8_isIn st_X8_isIn rfl rfl (Nat.le_of_ble_eq_true rfl) ⟨Nat.le_of_ble_eq_true rfl, Nat.le_of_ble_eq_true rfl⟩ rfl (fun q_6 => ?_)
      refine w_iconst (q := 55) hc dX8_readsPoints_54 ci_3 rfl ?_
      refine w_callV_Wv (q := 58) (st := []) (args := [.int (b2i q_6), .int 3]) (p := 43) hc (m_X8_must hK hR) dX8_readsPoints_55 ml_X8_453 cf_X8_must iv_X8_must (k_43 hK) (C := RX8) (T := TX8) (N := 45) rfl rfl (Nat.lt_of_succ_le (Nat.le_of_ble_eq_true rfl)) rfl rfl (Nat.le_of_ble_eq_true rfl) ⟨Nat.le_of_ble_eq_true rfl, Nat.le_of_ble_eq_true rfl⟩ rfl (fun q_7 => ?_)
      refine w_aload_n (q := 59) (i := 0) (j := 0) hc dX8_readsPoints_58 rfl rfl rfl ?_
      refine w_callV_Rz (q := 62) (st := []) (args := []) (p := 43) hc (m_X8_good hK hR) dX8_readsPoints_59 ml_X8_408 cf_X8_good iv_X8_good (k_43 hK) (C := RX8) (T := TX8) (N := 45) rfl rfl (Nat.lt_of_succ_le (Nat.le_of_ble_eq_true rfl)) rfl rfl (Nat.le_of_ble_eq_true rfl) ⟨Nat.le_of_ble_eq_true rfl, Nat.le_of_ble_eq_true rfl⟩ rfl (fun q_8 => ?_)
      refine w_ifeq (q := 65) (tgt := 73) hc dX8_readsPoints_62 rfl rfl ?_ ?_
      · refine w_aload_n (q := 74) (i := 0) (j := 0) hc dX8_readsPoints_73 rfl rfl rfl ?_
        refine w_callV_Wv (q := 77) (st := []) (args := []) (p := 43) hc (m_X8_goesOn hK hR) dX8_readsPoints_74 ml_X8_457 cf_X8_goesOn iv_X8_goesOn (k_43 hK) (C := RX8) (T := TX8) (N := 45) rfl rfl (Nat.lt_of_succ_le (Nat.le_of_ble_eq_true rfl)) rfl rfl (Nat.le_of_ble_eq_true rfl) ⟨Nat.le_of_ble_eq_true rfl, Nat.le_of_ble_eq_true rfl⟩ rfl (fun q_9 => ?_)
        exact w_return hc hq dX8_readsPoints_77 rfl rfl
      · refine w_aload_n (q := 66) (i := 0) (j := 0) hc dX8_readsPoints_65 rfl rfl rfl ?_
        refine w_aload_n (q := 67) (i := 0) (j := 0) hc dX8_readsPoints_66 rfl rfl rfl ?_
        refine gf_X8_432 (q := 70) hc dX8_readsPoints_67 (k_43 hK) rfl ?_
        refine pf_X8_466 (q := 73) hc dX8_readsPoints_70 (k_43 hK) rfl (fun I_10 => ?_)
        refine w_aload_n (q := 74) (i := 0) (j := 0) hc dX8_readsPoints_73 rfl rfl rfl ?_
        refine w_callV_Wv (q := 77) (st := []) (args := []) (p := 43) hc (m_X8_goesOn hK hR) dX8_readsPoints_74 ml_X8_457 cf_X8_goesOn iv_X8_goesOn (k_43 hK) (C := RX8) (T := TX8) (N := 45) rfl rfl (Nat.lt_of_succ_le (Nat.le_of_ble_eq_true rfl)) rfl rfl (Nat.le_of_ble_eq_true rfl) ⟨Nat.le_of_ble_eq_true rfl, Nat.le_of_ble_eq_true rfl⟩ rfl (fun q_11 => ?_)
        exact w_return hc hq dX8_readsPoints_77 rfl rfl
    · intro j35_398 hj35_398
      refine w_icmpne (q := 30) (tgt := 34) hc dX8_readsPoints_27 rfl rfl ?_ ?_
      · refine w_iconst (q := 31) hc dX8_readsPoints_30 ci_1 rfl ?_
        refine w_goto (tgt := 35) hc dX8_readsPoints_31 rfl ?_
        exact hj35_398 true
      · refine w_iconst (q := 35) hc dX8_readsPoints_34 ci_0 rfl ?_
        exact hj35_398 false
  · intro j13_397 hj13_397
    refine w_ifne (q := 8) (tgt := 12) hc dX8_readsPoints_5 rfl rfl ?_ ?_
    · refine w_iconst (q := 9) hc dX8_readsPoints_8 ci_1 rfl ?_
      refine w_goto (tgt := 13) hc dX8_readsPoints_9 rfl ?_
      exact hj13_397 true
    · refine w_iconst (q := 13) hc dX8_readsPoints_12 ci_0 rfl ?_
      exact hj13_397 false
set_option maxRecDepth 100000 in
set_option maxHeartbeats 4000000 in
theorem wl_X8_readsCycle_22 {G : GT (Int32 × Mm)} {rm : Nat} (hc : Cx G cX8_readsCycle yX8_readsCycle.cls (some .int) 4 88) (hq : RetQ G anIW meW) (hK : gK G = lK rm) (hR : gR G = lR rm) (hn : gnL G = 5) (k0 : Int32 → Int32 → Int32 → MI → ML → Option (Int32 × Mm)) (hk0 : ∀ (v2_25 : Int32) (v3_26 : Int32) (v4_27 : Int32) (I_28 : MI) (L_29 : ML), WW G 157 [(0, .ref 43), (2, .int v2_25), (3, .int v3_26), (4, .int v4_27)] [] I_28 L_29 (k0 v2_25 v3_26 v4_27 I_28 L_29)) : ∀ (n : Nat) (v2_4 : Int32) (v3_5 : Int32) (v4_6 : Int32) (I_7 : MI) (L_8 : ML), WW G 22 [(0, .ref 43), (2, .int v2_4), (3, .int v3_5), (4, .int v4_6)] [] I_7 L_8 (f_X8_readsCycle_22 k0 n v2_4 v3_5 v4_6 I_7 L_8) := by
  have hN : ∀ i, Nat.blt i 5 = true → i < gnL G := fun i h => hn ▸ Nat.blt_eq.mp h
  intro n
  induction n with
  | zero => intros; exact w_none _ _ _
  | succ n ih =>
    intros v2_4 v3_5 v4_6 I_7 L_8
    rw [f_X8_readsCycle_22]
    refine w_aload_n (q := 23) (i := 0) (j := 0) hc dX8_readsCycle_22 rfl rfl rfl ?_
    refine w_callV_Rz (q := 26) (st := []) (args := []) (p := 43) hc (m_X8_good hK hR) dX8_readsCycle_23 ml_X8_408 cf_X8_good iv_X8_good (k_43 hK) (C := RX8) (T := TX8) (N := 45) rfl rfl (Nat.lt_of_succ_le (Nat.le_of_ble_eq_true rfl)) rfl rfl (Nat.le_of_ble_eq_true rfl) ⟨Nat.le_of_ble_eq_true rfl, Nat.le_of_ble_eq_true rfl⟩ rfl (fun q_9 => ?_)
    refine w_ifeq (q := 29) (tgt := 157) hc dX8_readsCycle_26 rfl rfl ?_ ?_
    · exact hk0 v2_4 v3_5 v4_6 I_7 L_8
    · refine w_iload_n (q := 30) (i := 3) (j := 2) hc dX8_readsCycle_29 rfl rfl rfl ?_
      refine w_iconst (q := 31) hc dX8_readsCycle_30 ci_m1 rfl ?_
      refine w_join (fun j42_401 : Option (Int32 × Mm) => WW G 42 [(0, .ref 43), (2, .int v2_4), (3, .int v3_5), (4, .int v4_6)] [] I_7 L_8 (j42_401)) ?_ ?_
      · refine w_aload_n (q := 43) (i := 0) (j := 0) hc dX8_readsCycle_42 rfl rfl rfl ?_
        refine w_aload_n (q := 44) (i := 0) (j := 0) hc dX8_readsCycle_43 rfl rfl rfl ?_
        refine gf_X8_421 (q := 47) hc dX8_readsCycle_44 (k_43 hK) rfl ?_
        refine w_iconst (q := 48) hc dX8_readsCycle_47 ci_2 rfl ?_
        refine w_join (fun j56_402 : Bool → Option (Int32 × Mm) => ∀ (s0_10 : Bool), WW G 56 [(0, .ref 43), (2, .int v2_4), (3, .int v3_5), (4, .int v4_6)] [.int (b2i s0_10), .ref 43] I_7 L_8 (j56_402 s0_10)) ?_ ?_
        · intro s0_10
          refine w_iconst (q := 57) hc dX8_readsCycle_56 ci_2 rfl ?_
          refine w_callV_Wv (q := 60) (st := []) (args := [.int (b2i s0_10), .int 2]) (p := 43) hc (m_X8_must hK hR) dX8_readsCycle_57 ml_X8_453 cf_X8_must iv_X8_must (k_43 hK) (C := RX8) (T := TX8) (N := 45) rfl rfl (Nat.lt_of_succ_le (Nat.le_of_ble_eq_true rfl)) rfl rfl (Nat.le_of_ble_eq_true rfl) ⟨Nat.le_of_ble_eq_true rfl, Nat.le_of_ble_eq_true rfl⟩ rfl (fun q_11 => ?_)
          refine w_aload_n (q := 61) (i := 0) (j := 0) hc dX8_readsCycle_60 rfl rfl rfl ?_
          refine w_aload_n (q := 62) (i := 0) (j := 0) hc dX8_readsCycle_61 rfl rfl rfl ?_
          refine gf_X8_432 (q := 65) hc dX8_readsCycle_62 (k_43 hK) rfl ?_
          refine w_aload_n (q := 66) (i := 0) (j := 0) hc dX8_readsCycle_65 rfl rfl rfl ?_
          refine gf_X8_466 (q := 69) hc dX8_readsCycle_66 (k_43 hK) rfl ?_
          refine w_join (fun j77_403 : Bool → Option (Int32 × Mm) => ∀ (s0_12 : Bool), WW G 77 [(0, .ref 43), (2, .int v2_4), (3, .int v3_5), (4, .int v4_6)] [.int (b2i s0_12), .ref 43] q_11.1 q_11.2 (j77_403 s0_12)) ?_ ?_
          · intro s0_12
            refine w_iconst (q := 78) hc dX8_readsCycle_77 ci_3 rfl ?_
            refine w_callV_Wv (q := 81) (st := []) (args := [.int (b2i s0_12), .int 3]) (p := 43) hc (m_X8_must hK hR) dX8_readsCycle_78 ml_X8_453 cf_X8_must iv_X8_must (k_43 hK) (C := RX8) (T := TX8) (N := 45) rfl rfl (Nat.lt_of_succ_le (Nat.le_of_ble_eq_true rfl)) rfl rfl (Nat.le_of_ble_eq_true rfl) ⟨Nat.le_of_ble_eq_true rfl, Nat.le_of_ble_eq_true rfl⟩ rfl (fun q_13 => ?_)
            refine w_aload_n (q := 82) (i := 0) (j := 0) hc dX8_readsCycle_81 rfl rfl rfl ?_
            refine w_iload_n (q := 83) (i := 2) (j := 1) hc dX8_readsCycle_82 rfl rfl rfl ?_
            refine w_aload_n (q := 84) (i := 0) (j := 0) hc dX8_readsCycle_83 rfl rfl rfl ?_
            refine gf_X8_432 (q := 87) hc dX8_readsCycle_84 (k_43 hK) rfl ?_
            refine w_callS_Rz (q := 90) (st := [.ref 43]) (args := [.int v2_4, .int (q_13.1 43 38)]) hc (m_X8_bit hK hR) dX8_readsCycle_87 ml_X8_157 cf_X8_bit st_X8_bit rfl rfl (Nat.le_of_ble_eq_true rfl) ⟨Nat.le_of_ble_eq_true rfl, Nat.le_of_ble_eq_true rfl⟩ rfl (fun q_14 => ?_)
            refine w_join (fun j98_404 : Bool → Option (Int32 × Mm) => ∀ (s0_15 : Bool), WW G 98 [(0, .ref 43), (2, .int v2_4), (3, .int v3_5), (4, .int v4_6)] [.int (b2i s0_15), .ref 43] q_13.1 q_13.2 (j98_404 s0_15)) ?_ ?_
            · intro s0_15
              refine w_iconst (q := 99) hc dX8_readsCycle_98 ci_4 rfl ?_
              refine w_callV_Wv (q := 102) (st := []) (args := [.int (b2i s0_15), .int 4]) (p := 43) hc (m_X8_must hK hR) dX8_readsCycle_99 ml_X8_453 cf_X8_must iv_X8_must (k_43 hK) (C := RX8) (T := TX8) (N := 45) rfl rfl (Nat.lt_of_succ_le (Nat.le_of_ble_eq_true rfl)) rfl rfl (Nat.le_of_ble_eq_true rfl) ⟨Nat.le_of_ble_eq_true rfl, Nat.le_of_ble_eq_true rfl⟩ rfl (fun q_16 => ?_)
              refine w_aload_n (q := 103) (i := 0) (j := 0) hc dX8_readsCycle_102 rfl rfl rfl ?_
              refine w_callV_Rz (q := 106) (st := []) (args := []) (p := 43) hc (m_X8_good hK hR) dX8_readsCycle_103 ml_X8_408 cf_X8_good iv_X8_good (k_43 hK) (C := RX8) (T := TX8) (N := 45) rfl rfl (Nat.lt_of_succ_le (Nat.le_of_ble_eq_true rfl)) rfl rfl (Nat.le_of_ble_eq_true rfl) ⟨Nat.le_of_ble_eq_true rfl, Nat.le_of_ble_eq_true rfl⟩ rfl (fun q_17 => ?_)
              refine w_ifne (q := 109) (tgt := 111) hc dX8_readsCycle_106 rfl rfl ?_ ?_
              · refine w_iload_n (q := 110) (i := 2) (j := 1) hc dX8_readsCycle_109 rfl rfl rfl ?_
                exact w_ireturn (v := v2_4) hc hq dX8_readsCycle_110 rfl rfl rfl
              · refine w_iload_n (q := 112) (i := 2) (j := 1) hc dX8_readsCycle_111 rfl rfl rfl ?_
                refine w_iconst (q := 113) hc dX8_readsCycle_112 ci_1 rfl ?_
                refine w_aload_n (q := 114) (i := 0) (j := 0) hc dX8_readsCycle_113 rfl rfl rfl ?_
                refine gf_X8_432 (q := 117) hc dX8_readsCycle_114 (k_43 hK) rfl ?_
                refine w_ishl (q := 118) hc dX8_readsCycle_117  rfl ?_
                refine w_ior (q := 119) hc dX8_readsCycle_118  rfl ?_
                refine w_istore_nB (q := 120) (i := 2) (lv' := fun v2_18 => [(2, .int v2_18), (0, .ref 43), (3, .int v3_5), (4, .int v4_6)]) hc dX8_readsCycle_119 rfl (hN 2 rfl) (fun _ => rfl) rfl (fun v2_18 => ?_)
                refine w_iload_n (q := 121) (i := 3) (j := 2) hc dX8_readsCycle_120 rfl rfl rfl ?_
                refine w_iconst (q := 122) hc dX8_readsCycle_121 ci_m1 rfl ?_
                refine w_icmpne (q := 125) (tgt := 133) hc dX8_readsCycle_122 rfl rfl ?_ ?_
                · refine w_aload_n (q := 126) (i := 0) (j := 1) hc dX8_readsCycle_125 rfl rfl rfl ?_
                  refine gf_X8_432 (q := 129) hc dX8_readsCycle_126 (k_43 hK) rfl ?_
                  refine w_istore_nB (q := 130) (i := 3) (lv' := fun v3_22 => [(3, .int v3_22), (2, .int v2_18), (0, .ref 43), (4, .int v4_6)]) hc dX8_readsCycle_129 rfl (hN 3 rfl) (fun _ => rfl) rfl (fun v3_22 => ?_)
                  refine w_goto (tgt := 144) hc dX8_readsCycle_130 rfl ?_
                  refine w_aload_n (q := 145) (i := 0) (j := 2) hc dX8_readsCycle_144 rfl rfl rfl ?_
                  refine gf_X8_432 (q := 148) hc dX8_readsCycle_145 (k_43 hK) rfl ?_
                  refine w_istoreB (q := 150) (i := 4) (lv' := fun v4_23 => [(4, .int v4_23), (3, .int v3_22), (2, .int v2_18), (0, .ref 43)]) hc dX8_readsCycle_148 (hN 4 rfl) (fun _ => rfl) rfl (fun v4_23 => ?_)
                  refine w_aload_n (q := 151) (i := 0) (j := 3) hc dX8_readsCycle_150 rfl rfl rfl ?_
                  refine w_callV_Wv (q := 154) (st := []) (args := []) (p := 43) hc (m_X8_reads hK hR) dX8_readsCycle_151 ml_X8_441 cf_X8_reads iv_X8_reads (k_43 hK) (C := RX8) (T := TX8) (N := 45) rfl rfl (Nat.lt_of_succ_le (Nat.le_of_ble_eq_true rfl)) rfl rfl (Nat.le_of_ble_eq_true rfl) ⟨Nat.le_of_ble_eq_true rfl, Nat.le_of_ble_eq_true rfl⟩ rfl (fun q_24 => ?_)
                  refine w_goto (tgt := 22) hc dX8_readsCycle_154 rfl ?_
                  refine w_sub [3, 2, 1, 0] rfl ?_
                  exact ih v2_18 v3_22 v4_23 q_24.1 q_24.2
                · refine w_aload_n (q := 134) (i := 0) (j := 1) hc dX8_readsCycle_133 rfl rfl rfl ?_
                  refine gf_X8_22 (q := 137) hc dX8_readsCycle_134 (k_43 hK) (r_43_8 hR) rfl ?_
                  refine w_iload (q := 139) (i := 4) (j := 3) hc dX8_readsCycle_137 rfl rfl ?_
                  refine w_aload_n (q := 140) (i := 0) (j := 1) hc dX8_readsCycle_139 rfl rfl rfl ?_
                  refine gf_X8_432 (q := 143) hc dX8_readsCycle_140 (k_43 hK) rfl ?_
                  refine w_iast (q := 144) hc dX8_readsCycle_143 (k_48 hK) rfl (fun I_19 => ?_)
                  refine w_aload_n (q := 145) (i := 0) (j := 1) hc dX8_readsCycle_144 rfl rfl rfl ?_
                  refine gf_X8_432 (q := 148) hc dX8_readsCycle_145 (k_43 hK) rfl ?_
                  refine w_istoreB (q := 150) (i := 4) (lv' := fun v4_20 => [(4, .int v4_20), (2, .int v2_18), (0, .ref 43), (3, .int v3_5)]) hc dX8_readsCycle_148 (hN 4 rfl) (fun _ => rfl) rfl (fun v4_20 => ?_)
                  refine w_aload_n (q := 151) (i := 0) (j := 2) hc dX8_readsCycle_150 rfl rfl rfl ?_
                  refine w_callV_Wv (q := 154) (st := []) (args := []) (p := 43) hc (m_X8_reads hK hR) dX8_readsCycle_151 ml_X8_441 cf_X8_reads iv_X8_reads (k_43 hK) (C := RX8) (T := TX8) (N := 45) rfl rfl (Nat.lt_of_succ_le (Nat.le_of_ble_eq_true rfl)) rfl rfl (Nat.le_of_ble_eq_true rfl) ⟨Nat.le_of_ble_eq_true rfl, Nat.le_of_ble_eq_true rfl⟩ rfl (fun q_21 => ?_)
                  refine w_goto (tgt := 22) hc dX8_readsCycle_154 rfl ?_
                  refine w_sub [2, 1, 3, 0] rfl ?_
                  exact ih v2_18 v3_5 v4_20 q_21.1 q_21.2
            · intro j98_404 hj98_404
              refine w_ifne (q := 93) (tgt := 97) hc dX8_readsCycle_90 rfl rfl ?_ ?_
              · refine w_iconst (q := 94) hc dX8_readsCycle_93 ci_1 rfl ?_
                refine w_goto (tgt := 98) hc dX8_readsCycle_94 rfl ?_
                exact hj98_404 true
              · refine w_iconst (q := 98) hc dX8_readsCycle_97 ci_0 rfl ?_
                exact hj98_404 false
          · intro j77_403 hj77_403
            refine w_icmpge (q := 72) (tgt := 76) hc dX8_readsCycle_69 rfl rfl ?_ ?_
            · refine w_iconst (q := 77) hc dX8_readsCycle_76 ci_0 rfl ?_
              exact hj77_403 false
            · refine w_iconst (q := 73) hc dX8_readsCycle_72 ci_1 rfl ?_
              refine w_goto (tgt := 77) hc dX8_readsCycle_73 rfl ?_
              exact hj77_403 true
        · intro j56_402 hj56_402
          refine w_icmpne (q := 51) (tgt := 55) hc dX8_readsCycle_48 rfl rfl ?_ ?_
          · refine w_iconst (q := 52) hc dX8_readsCycle_51 ci_1 rfl ?_
            refine w_goto (tgt := 56) hc dX8_readsCycle_52 rfl ?_
            exact hj56_402 true
          · refine w_iconst (q := 56) hc dX8_readsCycle_55 ci_0 rfl ?_
            exact hj56_402 false
      · intro j42_401 hj42_401
        refine w_icmpeq (q := 34) (tgt := 42) hc dX8_readsCycle_31 rfl rfl ?_ ?_
        · exact hj42_401
        · refine w_aload_n (q := 35) (i := 0) (j := 0) hc dX8_readsCycle_34 rfl rfl rfl ?_
          refine gf_X8_421 (q := 38) hc dX8_readsCycle_35 (k_43 hK) rfl ?_
          refine w_iconst (q := 39) hc dX8_readsCycle_38 ci_2 rfl ?_
          refine w_icmpne (q := 42) (tgt := 157) hc dX8_readsCycle_39 rfl rfl ?_ ?_
          · exact hj42_401
          · exact hk0 v2_4 v3_5 v4_6 I_7 L_8
set_option maxRecDepth 100000 in
set_option maxHeartbeats 4000000 in
theorem m_X8_readsCycle {l : Launch} {K : KT} {R : MR} {rm : Nat} {a1 : Int32} {I : MI} {L : ML} (hK0 : K = lK rm) (hR0 : R = lR rm) : MFg l yX8_readsCycle cX8_readsCycle 5 (some .int) 4 88 [.ref 43, .int a1] K R I L anIW meW (f_X8_readsCycle a1 I L) := by
  refine mf_of (plainFor_of_name (by decide)) (Nat.le_of_ble_eq_true rfl) ?_
  intro G hc _ hK1 hR1 hn hq
  have hK := hK1.trans hK0
  have hR := hR1.trans hR0
  have hN : ∀ i, Nat.blt i 5 = true → i < gnL G := fun i h => hn ▸ Nat.blt_eq.mp h
  unfold f_X8_readsCycle
  show WW G 0 [(0, .ref 43), (1, .int a1)] [] I L _
  refine w_iload_n (q := 1) (i := 1) (j := 1) hc dX8_readsCycle_0 rfl rfl rfl ?_
  refine w_istore_n (q := 2) (i := 2) (lv' := [(2, .int a1), (0, .ref 43), (1, .int a1)]) hc dX8_readsCycle_1 rfl (hN 2 rfl) rfl rfl ?_
  refine w_iconst (q := 3) hc dX8_readsCycle_2 ci_m1 rfl ?_
  refine w_istore_n (q := 4) (i := 3) (lv' := [(3, .int (-1)), (2, .int a1), (0, .ref 43), (1, .int a1)]) hc dX8_readsCycle_3 rfl (hN 3 rfl) rfl rfl ?_
  refine w_iconst (q := 5) hc dX8_readsCycle_4 ci_m1 rfl ?_
  refine w_istore (q := 7) (i := 4) (lv' := [(4, .int (-1)), (3, .int (-1)), (2, .int a1), (0, .ref 43), (1, .int a1)]) hc dX8_readsCycle_5 (hN 4 rfl) rfl rfl ?_
  refine w_aload_n (q := 8) (i := 0) (j := 3) hc dX8_readsCycle_7 rfl rfl rfl ?_
  refine w_aload_n (q := 9) (i := 0) (j := 3) hc dX8_readsCycle_8 rfl rfl rfl ?_
  refine w_bipush (q := 11) hc dX8_readsCycle_9 cb_40 rfl ?_
  refine w_callV_Rz (q := 14) (st := [.ref 43]) (args := [.int 40]) (p := 43) hc (m_X8_isSign hK hR) dX8_readsCycle_11 ml_X8_471 cf_X8_isSign iv_X8_isSign (k_43 hK) (C := RX8) (T := TX8) (N := 45) rfl rfl (Nat.lt_of_succ_le (Nat.le_of_ble_eq_true rfl)) rfl rfl (Nat.le_of_ble_eq_true rfl) ⟨Nat.le_of_ble_eq_true rfl, Nat.le_of_ble_eq_true rfl⟩ rfl (fun q_1 => ?_)
  refine w_iconst (q := 15) hc dX8_readsCycle_14 ci_2 rfl ?_
  refine w_callV_Wv (q := 18) (st := []) (args := [.int (b2i q_1), .int 2]) (p := 43) hc (m_X8_must hK hR) dX8_readsCycle_15 ml_X8_453 cf_X8_must iv_X8_must (k_43 hK) (C := RX8) (T := TX8) (N := 45) rfl rfl (Nat.lt_of_succ_le (Nat.le_of_ble_eq_true rfl)) rfl rfl (Nat.le_of_ble_eq_true rfl) ⟨Nat.le_of_ble_eq_true rfl, Nat.le_of_ble_eq_true rfl⟩ rfl (fun q_2 => ?_)
  refine w_aload_n (q := 19) (i := 0) (j := 3) hc dX8_readsCycle_18 rfl rfl rfl ?_
  refine w_callV_Wv (q := 22) (st := []) (args := []) (p := 43) hc (m_X8_goesOn hK hR) dX8_readsCycle_19 ml_X8_457 cf_X8_goesOn iv_X8_goesOn (k_43 hK) (C := RX8) (T := TX8) (N := 45) rfl rfl (Nat.lt_of_succ_le (Nat.le_of_ble_eq_true rfl)) rfl rfl (Nat.le_of_ble_eq_true rfl) ⟨Nat.le_of_ble_eq_true rfl, Nat.le_of_ble_eq_true rfl⟩ rfl (fun q_3 => ?_)
  refine w_sub [3, 2, 1, 0] rfl ?_
  refine wl_X8_readsCycle_22 hc hq hK hR hn _ ?_ FU a1 (-1) (-1) q_3.1 q_3.2
  intro v2_25 v3_26 v4_27 I_28 L_29
  refine w_aload_n (q := 158) (i := 0) (j := 0) hc dX8_readsCycle_157 rfl rfl rfl ?_
  refine w_callV_Rz (q := 161) (st := []) (args := []) (p := 43) hc (m_X8_good hK hR) dX8_readsCycle_158 ml_X8_408 cf_X8_good iv_X8_good (k_43 hK) (C := RX8) (T := TX8) (N := 45) rfl rfl (Nat.lt_of_succ_le (Nat.le_of_ble_eq_true rfl)) rfl rfl (Nat.le_of_ble_eq_true rfl) ⟨Nat.le_of_ble_eq_true rfl, Nat.le_of_ble_eq_true rfl⟩ rfl (fun q_30 => ?_)
  refine w_ifeq (q := 164) (tgt := 172) hc dX8_readsCycle_161 rfl rfl ?_ ?_
  · refine w_aload_n (q := 173) (i := 0) (j := 0) hc dX8_readsCycle_172 rfl rfl rfl ?_
    refine w_aload_n (q := 174) (i := 0) (j := 0) hc dX8_readsCycle_173 rfl rfl rfl ?_
    refine w_bipush (q := 176) hc dX8_readsCycle_174 cb_41 rfl ?_
    refine w_callV_Rz (q := 179) (st := [.ref 43]) (args := [.int 41]) (p := 43) hc (m_X8_isSign hK hR) dX8_readsCycle_176 ml_X8_471 cf_X8_isSign iv_X8_isSign (k_43 hK) (C := RX8) (T := TX8) (N := 45) rfl rfl (Nat.lt_of_succ_le (Nat.le_of_ble_eq_true rfl)) rfl rfl (Nat.le_of_ble_eq_true rfl) ⟨Nat.le_of_ble_eq_true rfl, Nat.le_of_ble_eq_true rfl⟩ rfl (fun q_31 => ?_)
    refine w_iconst (q := 180) hc dX8_readsCycle_179 ci_2 rfl ?_
    refine w_callV_Wv (q := 183) (st := []) (args := [.int (b2i q_31), .int 2]) (p := 43) hc (m_X8_must hK hR) dX8_readsCycle_180 ml_X8_453 cf_X8_must iv_X8_must (k_43 hK) (C := RX8) (T := TX8) (N := 45) rfl rfl (Nat.lt_of_succ_le (Nat.le_of_ble_eq_true rfl)) rfl rfl (Nat.le_of_ble_eq_true rfl) ⟨Nat.le_of_ble_eq_true rfl, Nat.le_of_ble_eq_true rfl⟩ rfl (fun q_32 => ?_)
    refine w_aload_n (q := 184) (i := 0) (j := 0) hc dX8_readsCycle_183 rfl rfl rfl ?_
    refine w_callV_Wv (q := 187) (st := []) (args := []) (p := 43) hc (m_X8_goesOn hK hR) dX8_readsCycle_184 ml_X8_457 cf_X8_goesOn iv_X8_goesOn (k_43 hK) (C := RX8) (T := TX8) (N := 45) rfl rfl (Nat.lt_of_succ_le (Nat.le_of_ble_eq_true rfl)) rfl rfl (Nat.le_of_ble_eq_true rfl) ⟨Nat.le_of_ble_eq_true rfl, Nat.le_of_ble_eq_true rfl⟩ rfl (fun q_33 => ?_)
    refine w_iload_n (q := 188) (i := 2) (j := 1) hc dX8_readsCycle_187 rfl rfl rfl ?_
    exact w_ireturn (v := v2_25) hc hq dX8_readsCycle_188 rfl rfl rfl
  · refine w_aload_n (q := 165) (i := 0) (j := 0) hc dX8_readsCycle_164 rfl rfl rfl ?_
    refine gf_X8_22 (q := 168) hc dX8_readsCycle_165 (k_43 hK) (r_43_8 hR) rfl ?_
    refine w_iload (q := 170) (i := 4) (j := 3) hc dX8_readsCycle_168 rfl rfl ?_
    refine w_iload_n (q := 171) (i := 3) (j := 2) hc dX8_readsCycle_170 rfl rfl rfl ?_
    refine w_iast (q := 172) hc dX8_readsCycle_171 (k_48 hK) rfl (fun I_34 => ?_)
    refine w_aload_n (q := 173) (i := 0) (j := 0) hc dX8_readsCycle_172 rfl rfl rfl ?_
    refine w_aload_n (q := 174) (i := 0) (j := 0) hc dX8_readsCycle_173 rfl rfl rfl ?_
    refine w_bipush (q := 176) hc dX8_readsCycle_174 cb_41 rfl ?_
    refine w_callV_Rz (q := 179) (st := [.ref 43]) (args := [.int 41]) (p := 43) hc (m_X8_isSign hK hR) dX8_readsCycle_176 ml_X8_471 cf_X8_isSign iv_X8_isSign (k_43 hK) (C := RX8) (T := TX8) (N := 45) rfl rfl (Nat.lt_of_succ_le (Nat.le_of_ble_eq_true rfl)) rfl rfl (Nat.le_of_ble_eq_true rfl) ⟨Nat.le_of_ble_eq_true rfl, Nat.le_of_ble_eq_true rfl⟩ rfl (fun q_35 => ?_)
    refine w_iconst (q := 180) hc dX8_readsCycle_179 ci_2 rfl ?_
    refine w_callV_Wv (q := 183) (st := []) (args := [.int (b2i q_35), .int 2]) (p := 43) hc (m_X8_must hK hR) dX8_readsCycle_180 ml_X8_453 cf_X8_must iv_X8_must (k_43 hK) (C := RX8) (T := TX8) (N := 45) rfl rfl (Nat.lt_of_succ_le (Nat.le_of_ble_eq_true rfl)) rfl rfl (Nat.le_of_ble_eq_true rfl) ⟨Nat.le_of_ble_eq_true rfl, Nat.le_of_ble_eq_true rfl⟩ rfl (fun q_36 => ?_)
    refine w_aload_n (q := 184) (i := 0) (j := 0) hc dX8_readsCycle_183 rfl rfl rfl ?_
    refine w_callV_Wv (q := 187) (st := []) (args := []) (p := 43) hc (m_X8_goesOn hK hR) dX8_readsCycle_184 ml_X8_457 cf_X8_goesOn iv_X8_goesOn (k_43 hK) (C := RX8) (T := TX8) (N := 45) rfl rfl (Nat.lt_of_succ_le (Nat.le_of_ble_eq_true rfl)) rfl rfl (Nat.le_of_ble_eq_true rfl) ⟨Nat.le_of_ble_eq_true rfl, Nat.le_of_ble_eq_true rfl⟩ rfl (fun q_37 => ?_)
    refine w_iload_n (q := 188) (i := 2) (j := 1) hc dX8_readsCycle_187 rfl rfl rfl ?_
    exact w_ireturn (v := v2_25) hc hq dX8_readsCycle_188 rfl rfl rfl
set_option maxRecDepth 100000 in
set_option maxHeartbeats 4000000 in
theorem wl_X8_readsMove_10 {G : GT Mm} {rm : Nat} (hc : Cx G cX8_readsMove yX8_readsMove.cls none 5 112) (hq : RetQ G anV meV) (hK : gK G = lK rm) (hR : gR G = lR rm) (hn : gnL G = 2) : ∀ (n : Nat) (v1_4 : Int32) (I_5 : MI) (L_6 : ML), WW G 10 [(0, .ref 43), (1, .int v1_4)] [] I_5 L_6 (f_X8_readsMove_10 n v1_4 I_5 L_6) := by
  have hN : ∀ i, Nat.blt i 2 = true → i < gnL G := fun i h => hn ▸ Nat.blt_eq.mp h
  intro n
  induction n with
  | zero => intros; exact w_none _ _ _
  | succ n ih =>
    intros v1_4 I_5 L_6
    rw [f_X8_readsMove_10]
    refine w_aload_n (q := 11) (i := 0) (j := 0) hc dX8_readsMove_10 rfl rfl rfl ?_
    refine w_bipush (q := 13) hc dX8_readsMove_11 cb_40 rfl ?_
    refine w_callV_Rz (q := 16) (st := []) (args := [.int 40]) (p := 43) hc (m_X8_isSign hK hR) dX8_readsMove_13 ml_X8_471 cf_X8_isSign iv_X8_isSign (k_43 hK) (C := RX8) (T := TX8) (N := 45) rfl rfl (Nat.lt_of_succ_le (Nat.le_of_ble_eq_true rfl)) rfl rfl (Nat.le_of_ble_eq_true rfl) ⟨Nat.le_of_ble_eq_true rfl, Nat.le_of_ble_eq_true rfl⟩ rfl (fun q_7 => ?_)
    refine w_ifeq (q := 19) (tgt := 28) hc dX8_readsMove_16 rfl rfl ?_ ?_
    · exact w_return hc hq dX8_readsMove_28 rfl rfl
    · refine w_aload_n (q := 20) (i := 0) (j := 0) hc dX8_readsMove_19 rfl rfl rfl ?_
      refine w_iload_n (q := 21) (i := 1) (j := 1) hc dX8_readsMove_20 rfl rfl rfl ?_
      refine w_callV_Wi (q := 24) (st := []) (args := [.int v1_4]) (p := 43) hc (m_X8_readsCycle hK hR) dX8_readsMove_21 ml_X8_477 cf_X8_readsCycle iv_X8_readsCycle (k_43 hK) (C := RX8) (T := TX8) (N := 45) rfl rfl (Nat.lt_of_succ_le (Nat.le_of_ble_eq_true rfl)) rfl rfl (Nat.le_of_ble_eq_true rfl) ⟨Nat.le_of_ble_eq_true rfl, Nat.le_of_ble_eq_true rfl⟩ rfl (fun q_8 => ?_)
      refine w_istore_nB (q := 25) (i := 1) (lv' := fun v1_9 => [(1, .int v1_9), (0, .ref 43)]) hc dX8_readsMove_24 rfl (hN 1 rfl) (fun _ => rfl) rfl (fun v1_9 => ?_)
      refine w_goto (tgt := 10) hc dX8_readsMove_25 rfl ?_
      refine w_sub [1, 0] rfl ?_
      exact ih v1_9 q_8.2.1 q_8.2.2
set_option maxRecDepth 100000 in
set_option maxHeartbeats 4000000 in
theorem m_X8_readsMove {l : Launch} {K : KT} {R : MR} {rm : Nat} {I : MI} {L : ML} (hK0 : K = lK rm) (hR0 : R = lR rm) : MFg l yX8_readsMove cX8_readsMove 2 none 5 112 [.ref 43] K R I L anV meV (f_X8_readsMove I L) := by
  refine mf_of (plainFor_of_name (by decide)) (Nat.le_of_ble_eq_true rfl) ?_
  intro G hc _ hK1 hR1 hn hq
  have hK := hK1.trans hK0
  have hR := hR1.trans hR0
  have hN : ∀ i, Nat.blt i 2 = true → i < gnL G := fun i h => hn ▸ Nat.blt_eq.mp h
  unfold f_X8_readsMove
  show WW G 0 [(0, .ref 43)] [] I L _
  refine w_aload_n (q := 1) (i := 0) (j := 0) hc dX8_readsMove_0 rfl rfl rfl ?_
  refine w_callV_Wv (q := 4) (st := []) (args := []) (p := 43) hc (m_X8_takesNew hK hR) dX8_readsMove_1 ml_X8_474 cf_X8_takesNew iv_X8_takesNew (k_43 hK) (C := RX8) (T := TX8) (N := 45) rfl rfl (Nat.lt_of_succ_le (Nat.le_of_ble_eq_true rfl)) rfl rfl (Nat.le_of_ble_eq_true rfl) ⟨Nat.le_of_ble_eq_true rfl, Nat.le_of_ble_eq_true rfl⟩ rfl (fun q_1 => ?_)
  refine w_aload_n (q := 5) (i := 0) (j := 0) hc dX8_readsMove_4 rfl rfl rfl ?_
  refine w_iconst (q := 6) hc dX8_readsMove_5 ci_0 rfl ?_
  refine w_callV_Wi (q := 9) (st := []) (args := [.int 0]) (p := 43) hc (m_X8_readsCycle hK hR) dX8_readsMove_6 ml_X8_477 cf_X8_readsCycle iv_X8_readsCycle (k_43 hK) (C := RX8) (T := TX8) (N := 45) rfl rfl (Nat.lt_of_succ_le (Nat.le_of_ble_eq_true rfl)) rfl rfl (Nat.le_of_ble_eq_true rfl) ⟨Nat.le_of_ble_eq_true rfl, Nat.le_of_ble_eq_true rfl⟩ rfl (fun q_2 => ?_)
  refine w_istore_nB (q := 10) (i := 1) (lv' := fun v1_3 => [(1, .int v1_3), (0, .ref 43)]) hc dX8_readsMove_9 rfl (hN 1 rfl) (fun _ => rfl) rfl (fun v1_3 => ?_)
  refine w_sub [1, 0] rfl ?_
  exact wl_X8_readsMove_10 hc hq hK hR hn FU v1_3 q_2.2.1 q_2.2.2
set_option maxRecDepth 100000 in
set_option maxHeartbeats 4000000 in
theorem m_X8_readsItem {l : Launch} {K : KT} {R : MR} {rm : Nat} {I : MI} {L : ML} (hK0 : K = lK rm) (hR0 : R = lR rm) : MFg l yX8_readsItem cX8_readsItem 2 none 3 68 [.ref 43] K R I L anV meV (f_X8_readsItem I L) := by
  refine mf_of (plainFor_of_name (by decide)) (Nat.le_of_ble_eq_true rfl) ?_
  intro G hc _ hK1 hR1 hn hq
  have hK := hK1.trans hK0
  have hR := hR1.trans hR0
  have hN : ∀ i, Nat.blt i 2 = true → i < gnL G := fun i h => hn ▸ Nat.blt_eq.mp h
  unfold f_X8_readsItem
  show WW G 0 [(0, .ref 43)] [] I L _
  refine w_aload_n (q := 1) (i := 0) (j := 0) hc dX8_readsItem_0 rfl rfl rfl ?_
  refine w_aload_n (q := 2) (i := 0) (j := 0) hc dX8_readsItem_1 rfl rfl rfl ?_
  refine w_callV_Rz (q := 5) (st := [.ref 43]) (args := []) (p := 43) hc (m_X8_isName hK hR) dX8_readsItem_2 ml_X8_460 cf_X8_isName iv_X8_isName (k_43 hK) (C := RX8) (T := TX8) (N := 45) rfl rfl (Nat.lt_of_succ_le (Nat.le_of_ble_eq_true rfl)) rfl rfl (Nat.le_of_ble_eq_true rfl) ⟨Nat.le_of_ble_eq_true rfl, Nat.le_of_ble_eq_true rfl⟩ rfl (fun q_1 => ?_)
  refine w_iconst (q := 6) hc dX8_readsItem_5 ci_2 rfl ?_
  refine w_callV_Wv (q := 9) (st := []) (args := [.int (b2i q_1), .int 2]) (p := 43) hc (m_X8_must hK hR) dX8_readsItem_6 ml_X8_453 cf_X8_must iv_X8_must (k_43 hK) (C := RX8) (T := TX8) (N := 45) rfl rfl (Nat.lt_of_succ_le (Nat.le_of_ble_eq_true rfl)) rfl rfl (Nat.le_of_ble_eq_true rfl) ⟨Nat.le_of_ble_eq_true rfl, Nat.le_of_ble_eq_true rfl⟩ rfl (fun q_2 => ?_)
  refine w_aload_n (q := 10) (i := 0) (j := 0) hc dX8_readsItem_9 rfl rfl rfl ?_
  refine w_callV_Ri (q := 13) (st := []) (args := []) (p := 43) hc (m_X8_nameNow hK hR) dX8_readsItem_10 ml_X8_463 cf_X8_nameNow iv_X8_nameNow (k_43 hK) (C := RX8) (T := TX8) (N := 45) rfl rfl (Nat.lt_of_succ_le (Nat.le_of_ble_eq_true rfl)) rfl rfl (Nat.le_of_ble_eq_true rfl) ⟨Nat.le_of_ble_eq_true rfl, Nat.le_of_ble_eq_true rfl⟩ rfl (fun q_3 => ?_)
  refine w_istore_n (q := 14) (i := 1) (lv' := [(1, .int q_3), (0, .ref 43)]) hc dX8_readsItem_13 rfl (hN 1 rfl) rfl rfl ?_
  refine w_aload_n (q := 15) (i := 0) (j := 1) hc dX8_readsItem_14 rfl rfl rfl ?_
  refine w_iload_n (q := 16) (i := 1) (j := 0) hc dX8_readsItem_15 rfl rfl rfl ?_
  refine w_iconst (q := 17) hc dX8_readsItem_16 ci_m1 rfl ?_
  refine w_join (fun j25_406 : Bool → Option Mm => ∀ (s0_4 : Bool), WW G 25 [(0, .ref 43), (1, .int q_3)] [.int (b2i s0_4), .ref 43] q_2.1 q_2.2 (j25_406 s0_4)) ?_ ?_
  · intro s0_4
    refine w_iconst (q := 26) hc dX8_readsItem_25 ci_4 rfl ?_
    refine w_callV_Wv (q := 29) (st := []) (args := [.int (b2i s0_4), .int 4]) (p := 43) hc (m_X8_must hK hR) dX8_readsItem_26 ml_X8_453 cf_X8_must iv_X8_must (k_43 hK) (C := RX8) (T := TX8) (N := 45) rfl rfl (Nat.lt_of_succ_le (Nat.le_of_ble_eq_true rfl)) rfl rfl (Nat.le_of_ble_eq_true rfl) ⟨Nat.le_of_ble_eq_true rfl, Nat.le_of_ble_eq_true rfl⟩ rfl (fun q_5 => ?_)
    refine w_aload_n (q := 30) (i := 0) (j := 0) hc dX8_readsItem_29 rfl rfl rfl ?_
    refine w_callV_Rz (q := 33) (st := []) (args := []) (p := 43) hc (m_X8_good hK hR) dX8_readsItem_30 ml_X8_408 cf_X8_good iv_X8_good (k_43 hK) (C := RX8) (T := TX8) (N := 45) rfl rfl (Nat.lt_of_succ_le (Nat.le_of_ble_eq_true rfl)) rfl rfl (Nat.le_of_ble_eq_true rfl) ⟨Nat.le_of_ble_eq_true rfl, Nat.le_of_ble_eq_true rfl⟩ rfl (fun q_6 => ?_)
    refine w_ifne (q := 36) (tgt := 37) hc dX8_readsItem_33 rfl rfl ?_ ?_
    · exact w_return hc hq dX8_readsItem_36 rfl rfl
    · refine w_aload_n (q := 38) (i := 0) (j := 0) hc dX8_readsItem_37 rfl rfl rfl ?_
      refine w_callV_Wv (q := 41) (st := []) (args := []) (p := 43) hc (m_X8_reads hK hR) dX8_readsItem_38 ml_X8_441 cf_X8_reads iv_X8_reads (k_43 hK) (C := RX8) (T := TX8) (N := 45) rfl rfl (Nat.lt_of_succ_le (Nat.le_of_ble_eq_true rfl)) rfl rfl (Nat.le_of_ble_eq_true rfl) ⟨Nat.le_of_ble_eq_true rfl, Nat.le_of_ble_eq_true rfl⟩ rfl (fun q_7 => ?_)
      refine w_aload_n (q := 42) (i := 0) (j := 0) hc dX8_readsItem_41 rfl rfl rfl ?_
      refine gf_X8_93 (q := 45) hc dX8_readsItem_42 (k_43 hK) (r_43_44 hR) rfl ?_
      refine w_bipush (q := 47) hc dX8_readsItem_45 cb_10 rfl ?_
      refine w_iload_n (q := 48) (i := 1) (j := 1) hc dX8_readsItem_47 rfl rfl rfl ?_
      refine w_imul (q := 49) hc dX8_readsItem_48  rfl ?_
      refine w_aload_n (q := 50) (i := 0) (j := 0) hc dX8_readsItem_49 rfl rfl rfl ?_
      refine gf_X8_16 (q := 53) hc dX8_readsItem_50 (k_43 hK) (r_43_6 hR) rfl ?_
      refine w_iconst (q := 54) hc dX8_readsItem_53 ci_0 rfl ?_
      refine w_callS_Wv (q := 57) (st := []) (args := [.ref 68, .int (10 * q_3), .ref 46, .int 0]) hc (m_X8_copies hK hR (kB hK (k_68 hK)) (kB hK (k_46 hK))) dX8_readsItem_54 ml_X8_100 cf_X8_copies st_X8_copies rfl rfl (Nat.le_of_ble_eq_true rfl) ⟨Nat.le_of_ble_eq_true rfl, Nat.le_of_ble_eq_true rfl⟩ rfl (fun q_8 => ?_)
      refine w_aload_n (q := 58) (i := 0) (j := 0) hc dX8_readsItem_57 rfl rfl rfl ?_
      refine gf_X8_16 (q := 61) hc dX8_readsItem_58 (k_43 hK) (r_43_6 hR) rfl ?_
      refine w_iconst (q := 62) hc dX8_readsItem_61 ci_0 rfl ?_
      refine w_aload_n (q := 63) (i := 0) (j := 0) hc dX8_readsItem_62 rfl rfl rfl ?_
      refine gf_X8_19 (q := 66) hc dX8_readsItem_63 (k_43 hK) (r_43_7 hR) rfl ?_
      refine w_iconst (q := 67) hc dX8_readsItem_66 ci_0 rfl ?_
      refine w_callS_Wv (q := 70) (st := []) (args := [.ref 46, .int 0, .ref 47, .int 0]) hc (m_X8_copies hK hR (kB hK (k_46 hK)) (kB hK (k_47 hK))) dX8_readsItem_67 ml_X8_100 cf_X8_copies st_X8_copies rfl rfl (Nat.le_of_ble_eq_true rfl) ⟨Nat.le_of_ble_eq_true rfl, Nat.le_of_ble_eq_true rfl⟩ rfl (fun q_9 => ?_)
      refine w_aload_n (q := 71) (i := 0) (j := 0) hc dX8_readsItem_70 rfl rfl rfl ?_
      refine w_bipush (q := 73) hc dX8_readsItem_71 cb_39 rfl ?_
      refine w_callV_Rz (q := 76) (st := []) (args := [.int 39]) (p := 43) hc (m_X8_isSign hK hR) dX8_readsItem_73 ml_X8_471 cf_X8_isSign iv_X8_isSign (k_43 hK) (C := RX8) (T := TX8) (N := 45) rfl rfl (Nat.lt_of_succ_le (Nat.le_of_ble_eq_true rfl)) rfl rfl (Nat.le_of_ble_eq_true rfl) ⟨Nat.le_of_ble_eq_true rfl, Nat.le_of_ble_eq_true rfl⟩ rfl (fun q_10 => ?_)
      refine w_join (fun j94_407 : MI → ML → Option Mm => ∀ (I_13 : MI) (L_14 : ML), WW G 94 [(0, .ref 43)] [] I_13 L_14 (j94_407 I_13 L_14)) ?_ ?_
      · intro I_13 L_14
        refine w_aload_n (q := 95) (i := 0) (j := 0) hc dX8_readsItem_94 rfl rfl rfl ?_
        refine gf_X8_22 (q := 98) hc dX8_readsItem_95 (k_43 hK) (r_43_8 hR) rfl ?_
        refine w_iconst (q := 99) hc dX8_readsItem_98 ci_0 rfl ?_
        refine w_aload_n (q := 100) (i := 0) (j := 0) hc dX8_readsItem_99 rfl rfl rfl ?_
        refine gf_X8_16 (q := 103) hc dX8_readsItem_100 (k_43 hK) (r_43_6 hR) rfl ?_
        refine w_iconst (q := 104) hc dX8_readsItem_103 ci_0 rfl ?_
        refine w_callS_Wv (q := 107) (st := []) (args := [.ref 48, .int 0, .ref 46, .int 0]) hc (m_X8_copies hK hR (kB hK (k_48 hK)) (kB hK (k_46 hK))) dX8_readsItem_104 ml_X8_100 cf_X8_copies st_X8_copies rfl rfl (Nat.le_of_ble_eq_true rfl) ⟨Nat.le_of_ble_eq_true rfl, Nat.le_of_ble_eq_true rfl⟩ rfl (fun q_15 => ?_)
        refine w_aload_n (q := 108) (i := 0) (j := 0) hc dX8_readsItem_107 rfl rfl rfl ?_
        refine gf_X8_16 (q := 111) hc dX8_readsItem_108 (k_43 hK) (r_43_6 hR) rfl ?_
        refine w_aload_n (q := 112) (i := 0) (j := 0) hc dX8_readsItem_111 rfl rfl rfl ?_
        refine gf_X8_19 (q := 115) hc dX8_readsItem_112 (k_43 hK) (r_43_7 hR) rfl ?_
        refine w_aload_n (q := 116) (i := 0) (j := 0) hc dX8_readsItem_115 rfl rfl rfl ?_
        refine gf_X8_22 (q := 119) hc dX8_readsItem_116 (k_43 hK) (r_43_8 hR) rfl ?_
        refine w_callS_Wv (q := 122) (st := []) (args := [.ref 46, .ref 47, .ref 48]) hc (m_X8_makes hK hR (kB hK (k_46 hK)) (kB hK (k_47 hK)) (kB hK (k_48 hK))) dX8_readsItem_119 ml_X8_138 cf_X8_makes st_X8_makes rfl rfl (Nat.le_of_ble_eq_true rfl) ⟨Nat.le_of_ble_eq_true rfl, Nat.le_of_ble_eq_true rfl⟩ rfl (fun q_16 => ?_)
        exact w_return hc hq dX8_readsItem_122 rfl rfl
      · intro j94_407 hj94_407
        refine w_ifeq (q := 79) (tgt := 94) hc dX8_readsItem_76 rfl rfl ?_ ?_
        · refine w_sub [0] rfl ?_
          exact hj94_407 q_9.1 q_9.2
        · refine w_aload_n (q := 80) (i := 0) (j := 0) hc dX8_readsItem_79 rfl rfl rfl ?_
          refine gf_X8_16 (q := 83) hc dX8_readsItem_80 (k_43 hK) (r_43_6 hR) rfl ?_
          refine w_aload_n (q := 84) (i := 0) (j := 0) hc dX8_readsItem_83 rfl rfl rfl ?_
          refine gf_X8_19 (q := 87) hc dX8_readsItem_84 (k_43 hK) (r_43_7 hR) rfl ?_
          refine w_callS_Wv (q := 90) (st := []) (args := [.ref 46, .ref 47]) hc (m_X8_inverts hK hR (kB hK (k_46 hK)) (kB hK (k_47 hK))) dX8_readsItem_87 ml_X8_130 cf_X8_inverts st_X8_inverts rfl rfl (Nat.le_of_ble_eq_true rfl) ⟨Nat.le_of_ble_eq_true rfl, Nat.le_of_ble_eq_true rfl⟩ rfl (fun q_11 => ?_)
          refine w_aload_n (q := 91) (i := 0) (j := 0) hc dX8_readsItem_90 rfl rfl rfl ?_
          refine w_callV_Wv (q := 94) (st := []) (args := []) (p := 43) hc (m_X8_reads hK hR) dX8_readsItem_91 ml_X8_441 cf_X8_reads iv_X8_reads (k_43 hK) (C := RX8) (T := TX8) (N := 45) rfl rfl (Nat.lt_of_succ_le (Nat.le_of_ble_eq_true rfl)) rfl rfl (Nat.le_of_ble_eq_true rfl) ⟨Nat.le_of_ble_eq_true rfl, Nat.le_of_ble_eq_true rfl⟩ rfl (fun q_12 => ?_)
          refine w_sub [0] rfl ?_
          exact hj94_407 q_12.1 q_12.2
  · intro j25_406 hj25_406
    refine w_icmpeq (q := 20) (tgt := 24) hc dX8_readsItem_17 rfl rfl ?_ ?_
    · refine w_iconst (q := 25) hc dX8_readsItem_24 ci_0 rfl ?_
      refine w_sub [1, 0] rfl ?_
      exact hj25_406 false
    · refine w_iconst (q := 21) hc dX8_readsItem_20 ci_1 rfl ?_
      refine w_goto (tgt := 25) hc dX8_readsItem_21 rfl ?_
      refine w_sub [1, 0] rfl ?_
      exact hj25_406 true
set_option maxRecDepth 100000 in
set_option maxHeartbeats 4000000 in
theorem wl_X8_readsWord_8 {G : GT Mm} {rm : Nat} (hc : Cx G cX8_readsWord yX8_readsWord.cls none 5 108) (hq : RetQ G anV meV) (hK : gK G = lK rm) (hR : gR G = lR rm) (hn : gnL G = 1) : ∀ (n : Nat) (I_3 : MI) (L_4 : ML), WW G 8 [(0, .ref 43)] [] I_3 L_4 (f_X8_readsWord_8 n I_3 L_4) := by
  have hN : ∀ i, Nat.blt i 1 = true → i < gnL G := fun i h => hn ▸ Nat.blt_eq.mp h
  intro n
  induction n with
  | zero => intros; exact w_none _ _ _
  | succ n ih =>
    intros I_3 L_4
    rw [f_X8_readsWord_8]
    refine w_aload_n (q := 9) (i := 0) (j := 0) hc dX8_readsWord_8 rfl rfl rfl ?_
    refine w_callV_Rz (q := 12) (st := []) (args := []) (p := 43) hc (m_X8_isName hK hR) dX8_readsWord_9 ml_X8_460 cf_X8_isName iv_X8_isName (k_43 hK) (C := RX8) (T := TX8) (N := 45) rfl rfl (Nat.lt_of_succ_le (Nat.le_of_ble_eq_true rfl)) rfl rfl (Nat.le_of_ble_eq_true rfl) ⟨Nat.le_of_ble_eq_true rfl, Nat.le_of_ble_eq_true rfl⟩ rfl (fun q_5 => ?_)
    refine w_ifeq (q := 15) (tgt := 22) hc dX8_readsWord_12 rfl rfl ?_ ?_
    · exact w_return hc hq dX8_readsWord_22 rfl rfl
    · refine w_aload_n (q := 16) (i := 0) (j := 0) hc dX8_readsWord_15 rfl rfl rfl ?_
      refine w_callV_Wv (q := 19) (st := []) (args := []) (p := 43) hc (m_X8_readsItem hK hR) dX8_readsWord_16 ml_X8_480 cf_X8_readsItem iv_X8_readsItem (k_43 hK) (C := RX8) (T := TX8) (N := 45) rfl rfl (Nat.lt_of_succ_le (Nat.le_of_ble_eq_true rfl)) rfl rfl (Nat.le_of_ble_eq_true rfl) ⟨Nat.le_of_ble_eq_true rfl, Nat.le_of_ble_eq_true rfl⟩ rfl (fun q_6 => ?_)
      refine w_goto (tgt := 8) hc dX8_readsWord_19 rfl ?_
      exact ih q_6.1 q_6.2
set_option maxRecDepth 100000 in
set_option maxHeartbeats 4000000 in
theorem m_X8_readsWord {l : Launch} {K : KT} {R : MR} {rm : Nat} {I : MI} {L : ML} (hK0 : K = lK rm) (hR0 : R = lR rm) : MFg l yX8_readsWord cX8_readsWord 1 none 5 108 [.ref 43] K R I L anV meV (f_X8_readsWord I L) := by
  refine mf_of (plainFor_of_name (by decide)) (Nat.le_of_ble_eq_true rfl) ?_
  intro G hc _ hK1 hR1 hn hq
  have hK := hK1.trans hK0
  have hR := hR1.trans hR0
  have hN : ∀ i, Nat.blt i 1 = true → i < gnL G := fun i h => hn ▸ Nat.blt_eq.mp h
  unfold f_X8_readsWord
  show WW G 0 [(0, .ref 43)] [] I L _
  refine w_aload_n (q := 1) (i := 0) (j := 0) hc dX8_readsWord_0 rfl rfl rfl ?_
  refine w_callV_Wv (q := 4) (st := []) (args := []) (p := 43) hc (m_X8_takesNew hK hR) dX8_readsWord_1 ml_X8_474 cf_X8_takesNew iv_X8_takesNew (k_43 hK) (C := RX8) (T := TX8) (N := 45) rfl rfl (Nat.lt_of_succ_le (Nat.le_of_ble_eq_true rfl)) rfl rfl (Nat.le_of_ble_eq_true rfl) ⟨Nat.le_of_ble_eq_true rfl, Nat.le_of_ble_eq_true rfl⟩ rfl (fun q_1 => ?_)
  refine w_aload_n (q := 5) (i := 0) (j := 0) hc dX8_readsWord_4 rfl rfl rfl ?_
  refine w_callV_Wv (q := 8) (st := []) (args := []) (p := 43) hc (m_X8_readsItem hK hR) dX8_readsWord_5 ml_X8_480 cf_X8_readsItem iv_X8_readsItem (k_43 hK) (C := RX8) (T := TX8) (N := 45) rfl rfl (Nat.lt_of_succ_le (Nat.le_of_ble_eq_true rfl)) rfl rfl (Nat.le_of_ble_eq_true rfl) ⟨Nat.le_of_ble_eq_true rfl, Nat.le_of_ble_eq_true rfl⟩ rfl (fun q_2 => ?_)
  exact wl_X8_readsWord_8 hc hq hK hR hn FU q_2.1 q_2.2
set_option maxRecDepth 100000 in
set_option maxHeartbeats 4000000 in
theorem m_X8_line {l : Launch} {K : KT} {R : MR} {rm : Nat} {I : MI} {L : ML} (hK0 : K = lK rm) (hR0 : R = lR rm) : MFg l yX8_line cX8_line 1 none 6 133 [.ref 43] K R I L anV meV (f_X8_line I L) := by
  refine mf_of (plainFor_of_name (by decide)) (Nat.le_of_ble_eq_true rfl) ?_
  intro G hc _ hK1 hR1 hn hq
  have hK := hK1.trans hK0
  have hR := hR1.trans hR0
  have hN : ∀ i, Nat.blt i 1 = true → i < gnL G := fun i h => hn ▸ Nat.blt_eq.mp h
  unfold f_X8_line
  show WW G 0 [(0, .ref 43)] [] I L _
  refine w_aload_n (q := 1) (i := 0) (j := 0) hc dX8_line_0 rfl rfl rfl ?_
  refine w_ldc2 (q := 4) hc dX8_line_1 kl_X8_444 rfl ?_
  refine w_callV_Rz (q := 7) (st := []) (args := [.long 237742039]) (p := 43) hc (m_X8_isWord hK hR) dX8_line_4 ml_X8_483 cf_X8_isWord iv_X8_isWord (k_43 hK) (C := RX8) (T := TX8) (N := 45) rfl rfl (Nat.lt_of_succ_le (Nat.le_of_ble_eq_true rfl)) rfl rfl (Nat.le_of_ble_eq_true rfl) ⟨Nat.le_of_ble_eq_true rfl, Nat.le_of_ble_eq_true rfl⟩ rfl (fun q_1 => ?_)
  refine w_ifeq (q := 10) (tgt := 15) hc dX8_line_7 rfl rfl ?_ ?_
  · refine w_aload_n (q := 16) (i := 0) (j := 0) hc dX8_line_15 rfl rfl rfl ?_
    refine w_aload_n (q := 17) (i := 0) (j := 0) hc dX8_line_16 rfl rfl rfl ?_
    refine w_ldc2 (q := 20) hc dX8_line_17 kl_X8_446 rfl ?_
    refine w_callV_Rz (q := 23) (st := [.ref 43]) (args := [.long 267413]) (p := 43) hc (m_X8_isWord hK hR) dX8_line_20 ml_X8_483 cf_X8_isWord iv_X8_isWord (k_43 hK) (C := RX8) (T := TX8) (N := 45) rfl rfl (Nat.lt_of_succ_le (Nat.le_of_ble_eq_true rfl)) rfl rfl (Nat.le_of_ble_eq_true rfl) ⟨Nat.le_of_ble_eq_true rfl, Nat.le_of_ble_eq_true rfl⟩ rfl (fun q_2 => ?_)
    refine w_join (fun j48_409 : Bool → Option Mm => ∀ (s0_4 : Bool), WW G 48 [(0, .ref 43)] [.int (b2i s0_4), .ref 43] I L (j48_409 s0_4)) ?_ ?_
    · intro s0_4
      refine w_iconst (q := 49) hc dX8_line_48 ci_2 rfl ?_
      refine w_callV_Wv (q := 52) (st := []) (args := [.int (b2i s0_4), .int 2]) (p := 43) hc (m_X8_must hK hR) dX8_line_49 ml_X8_453 cf_X8_must iv_X8_must (k_43 hK) (C := RX8) (T := TX8) (N := 45) rfl rfl (Nat.lt_of_succ_le (Nat.le_of_ble_eq_true rfl)) rfl rfl (Nat.le_of_ble_eq_true rfl) ⟨Nat.le_of_ble_eq_true rfl, Nat.le_of_ble_eq_true rfl⟩ rfl (fun q_5 => ?_)
      refine w_aload_n (q := 53) (i := 0) (j := 0) hc dX8_line_52 rfl rfl rfl ?_
      refine w_callV_Rz (q := 56) (st := []) (args := []) (p := 43) hc (m_X8_good hK hR) dX8_line_53 ml_X8_408 cf_X8_good iv_X8_good (k_43 hK) (C := RX8) (T := TX8) (N := 45) rfl rfl (Nat.lt_of_succ_le (Nat.le_of_ble_eq_true rfl)) rfl rfl (Nat.le_of_ble_eq_true rfl) ⟨Nat.le_of_ble_eq_true rfl, Nat.le_of_ble_eq_true rfl⟩ rfl (fun q_6 => ?_)
      refine w_ifne (q := 59) (tgt := 60) hc dX8_line_56 rfl rfl ?_ ?_
      · exact w_return hc hq dX8_line_59 rfl rfl
      · refine w_aload_n (q := 61) (i := 0) (j := 0) hc dX8_line_60 rfl rfl rfl ?_
        refine w_ldc2 (q := 64) hc dX8_line_61 kl_X8_446 rfl ?_
        refine w_callV_Rz (q := 67) (st := []) (args := [.long 267413]) (p := 43) hc (m_X8_isWord hK hR) dX8_line_64 ml_X8_483 cf_X8_isWord iv_X8_isWord (k_43 hK) (C := RX8) (T := TX8) (N := 45) rfl rfl (Nat.lt_of_succ_le (Nat.le_of_ble_eq_true rfl)) rfl rfl (Nat.le_of_ble_eq_true rfl) ⟨Nat.le_of_ble_eq_true rfl, Nat.le_of_ble_eq_true rfl⟩ rfl (fun q_7 => ?_)
        refine w_join (fun j81_412 : MI → ML → Option Mm => ∀ (I_10 : MI) (L_11 : ML), WW G 81 [(0, .ref 43)] [] I_10 L_11 (j81_412 I_10 L_11)) ?_ ?_
        · intro I_10 L_11
          refine w_aload_n (q := 82) (i := 0) (j := 0) hc dX8_line_81 rfl rfl rfl ?_
          refine w_callV_Rz (q := 85) (st := []) (args := []) (p := 43) hc (m_X8_good hK hR) dX8_line_82 ml_X8_408 cf_X8_good iv_X8_good (k_43 hK) (C := RX8) (T := TX8) (N := 45) rfl rfl (Nat.lt_of_succ_le (Nat.le_of_ble_eq_true rfl)) rfl rfl (Nat.le_of_ble_eq_true rfl) ⟨Nat.le_of_ble_eq_true rfl, Nat.le_of_ble_eq_true rfl⟩ rfl (fun q_12 => ?_)
          refine w_join (fun j107_413 : MI → ML → Option Mm => ∀ (I_14 : MI) (L_15 : ML), WW G 107 [(0, .ref 43)] [] I_14 L_15 (j107_413 I_14 L_15)) ?_ ?_
          · intro I_14 L_15
            refine w_aload_n (q := 108) (i := 0) (j := 0) hc dX8_line_107 rfl rfl rfl ?_
            refine w_dup_ref (q := 109) hc dX8_line_108  rfl ?_
            refine gf_X8_450 (q := 112) hc dX8_line_109 (k_43 hK) rfl ?_
            refine w_aload_n (q := 113) (i := 0) (j := 0) hc dX8_line_112 rfl rfl rfl ?_
            refine w_callV_Rz (q := 116) (st := [.int (I_14 43 41), .ref 43]) (args := []) (p := 43) hc (m_X8_good hK hR) dX8_line_113 ml_X8_408 cf_X8_good iv_X8_good (k_43 hK) (C := RX8) (T := TX8) (N := 45) rfl rfl (Nat.lt_of_succ_le (Nat.le_of_ble_eq_true rfl)) rfl rfl (Nat.le_of_ble_eq_true rfl) ⟨Nat.le_of_ble_eq_true rfl, Nat.le_of_ble_eq_true rfl⟩ rfl (fun q_16 => ?_)
            refine w_ifeq (q := 119) (tgt := 123) hc dX8_line_116 rfl rfl ?_ ?_
            · refine w_iconst (q := 124) hc dX8_line_123 ci_0 rfl ?_
              refine w_iadd (q := 125) hc dX8_line_124  rfl ?_
              refine pf_X8_450 (q := 128) hc dX8_line_125 (k_43 hK) rfl (fun I_17 => ?_)
              exact w_return hc hq dX8_line_128 rfl rfl
            · refine w_iconst (q := 120) hc dX8_line_119 ci_1 rfl ?_
              refine w_goto (tgt := 124) hc dX8_line_120 rfl ?_
              refine w_iadd (q := 125) hc dX8_line_124  rfl ?_
              refine pf_X8_450 (q := 128) hc dX8_line_125 (k_43 hK) rfl (fun I_18 => ?_)
              exact w_return hc hq dX8_line_128 rfl rfl
          · intro j107_413 hj107_413
            refine w_ifeq (q := 88) (tgt := 107) hc dX8_line_85 rfl rfl ?_ ?_
            · exact hj107_413 I_10 L_11
            · refine w_aload_n (q := 89) (i := 0) (j := 0) hc dX8_line_88 rfl rfl rfl ?_
              refine gf_X8_22 (q := 92) hc dX8_line_89 (k_43 hK) (r_43_8 hR) rfl ?_
              refine w_iconst (q := 93) hc dX8_line_92 ci_0 rfl ?_
              refine w_aload_n (q := 94) (i := 0) (j := 0) hc dX8_line_93 rfl rfl rfl ?_
              refine gf_X8_93 (q := 97) hc dX8_line_94 (k_43 hK) (r_43_44 hR) rfl ?_
              refine w_bipush (q := 99) hc dX8_line_97 cb_10 rfl ?_
              refine w_aload_n (q := 100) (i := 0) (j := 0) hc dX8_line_99 rfl rfl rfl ?_
              refine gf_X8_450 (q := 103) hc dX8_line_100 (k_43 hK) rfl ?_
              refine w_imul (q := 104) hc dX8_line_103  rfl ?_
              refine w_callS_Wv (q := 107) (st := []) (args := [.ref 48, .int 0, .ref 68, .int (10 * (I_10 43 41))]) hc (m_X8_copies hK hR (kB hK (k_48 hK)) (kB hK (k_68 hK))) dX8_line_104 ml_X8_100 cf_X8_copies st_X8_copies rfl rfl (Nat.le_of_ble_eq_true rfl) ⟨Nat.le_of_ble_eq_true rfl, Nat.le_of_ble_eq_true rfl⟩ rfl (fun q_13 => ?_)
              exact hj107_413 q_13.1 q_13.2
        · intro j81_412 hj81_412
          refine w_ifeq (q := 70) (tgt := 77) hc dX8_line_67 rfl rfl ?_ ?_
          · refine w_aload_n (q := 78) (i := 0) (j := 0) hc dX8_line_77 rfl rfl rfl ?_
            refine w_callV_Wv (q := 81) (st := []) (args := []) (p := 43) hc (m_X8_readsWord hK hR) dX8_line_78 ml_X8_493 cf_X8_readsWord iv_X8_readsWord (k_43 hK) (C := RX8) (T := TX8) (N := 45) rfl rfl (Nat.lt_of_succ_le (Nat.le_of_ble_eq_true rfl)) rfl rfl (Nat.le_of_ble_eq_true rfl) ⟨Nat.le_of_ble_eq_true rfl, Nat.le_of_ble_eq_true rfl⟩ rfl (fun q_8 => ?_)
            exact hj81_412 q_8.1 q_8.2
          · refine w_aload_n (q := 71) (i := 0) (j := 0) hc dX8_line_70 rfl rfl rfl ?_
            refine w_callV_Wv (q := 74) (st := []) (args := []) (p := 43) hc (m_X8_readsMove hK hR) dX8_line_71 ml_X8_490 cf_X8_readsMove iv_X8_readsMove (k_43 hK) (C := RX8) (T := TX8) (N := 45) rfl rfl (Nat.lt_of_succ_le (Nat.le_of_ble_eq_true rfl)) rfl rfl (Nat.le_of_ble_eq_true rfl) ⟨Nat.le_of_ble_eq_true rfl, Nat.le_of_ble_eq_true rfl⟩ rfl (fun q_9 => ?_)
            refine w_goto (tgt := 81) hc dX8_line_74 rfl ?_
            exact hj81_412 q_9.1 q_9.2
    · intro j48_409 hj48_409
      refine w_join (fun j47_410 : Option Mm => WW G 47 [(0, .ref 43)] [.ref 43] I L (j47_410)) ?_ ?_
      · refine w_iconst (q := 48) hc dX8_line_47 ci_0 rfl ?_
        exact hj48_409 false
      · intro j47_410 hj47_410
        refine w_join (fun j36_411 : Option Mm => WW G 36 [(0, .ref 43)] [.ref 43] I L (j36_411)) ?_ ?_
        · refine w_aload_n (q := 37) (i := 0) (j := 0) hc dX8_line_36 rfl rfl rfl ?_
          refine gf_X8_466 (q := 40) hc dX8_line_37 (k_43 hK) rfl ?_
          refine w_ifle (q := 43) (tgt := 47) hc dX8_line_40 rfl rfl ?_ ?_
          · exact hj47_410
          · refine w_iconst (q := 44) hc dX8_line_43 ci_1 rfl ?_
            refine w_goto (tgt := 48) hc dX8_line_44 rfl ?_
            exact hj48_409 true
        · intro j36_411 hj36_411
          refine w_ifne (q := 26) (tgt := 36) hc dX8_line_23 rfl rfl ?_ ?_
          · refine w_aload_n (q := 27) (i := 0) (j := 0) hc dX8_line_26 rfl rfl rfl ?_
            refine w_ldc2 (q := 30) hc dX8_line_27 kl_X8_448 rfl ?_
            refine w_callV_Rz (q := 33) (st := [.ref 43]) (args := [.long 464134]) (p := 43) hc (m_X8_isWord hK hR) dX8_line_30 ml_X8_483 cf_X8_isWord iv_X8_isWord (k_43 hK) (C := RX8) (T := TX8) (N := 45) rfl rfl (Nat.lt_of_succ_le (Nat.le_of_ble_eq_true rfl)) rfl rfl (Nat.le_of_ble_eq_true rfl) ⟨Nat.le_of_ble_eq_true rfl, Nat.le_of_ble_eq_true rfl⟩ rfl (fun q_3 => ?_)
            refine w_ifeq (q := 36) (tgt := 47) hc dX8_line_33 rfl rfl ?_ ?_
            · exact hj47_410
            · exact hj36_411
          · exact hj36_411
  · refine w_aload_n (q := 11) (i := 0) (j := 0) hc dX8_line_10 rfl rfl rfl ?_
    refine w_callV_Wv (q := 14) (st := []) (args := []) (p := 43) hc (m_X8_readsPoints hK hR) dX8_line_11 ml_X8_487 cf_X8_readsPoints iv_X8_readsPoints (k_43 hK) (C := RX8) (T := TX8) (N := 45) rfl rfl (Nat.lt_of_succ_le (Nat.le_of_ble_eq_true rfl)) rfl rfl (Nat.le_of_ble_eq_true rfl) ⟨Nat.le_of_ble_eq_true rfl, Nat.le_of_ble_eq_true rfl⟩ rfl (fun q_19 => ?_)
    exact w_return hc hq dX8_line_14 rfl rfl
set_option maxRecDepth 100000 in
set_option maxHeartbeats 4000000 in
theorem wl_X8_load_179 {G : GT (Int32 × Mm)} {rm : Nat} (L : ML) (hc : Cx G cX8_load yX8_load.cls (some .int) 7 153) (hq : RetQ G anIW meW) (hK : gK G = lK rm) (hR : gR G = lR rm) (hn : gnL G = 3) (k0 : MI → Option (Int32 × Mm)) (hk0 : ∀ (I_31 : MI), WW G 211 [(0, .ref 43)] [] I_31 L (k0 I_31)) : ∀ (n : Nat) (v2_27 : Int32) (I_28 : MI), WW G 179 [(0, .ref 43), (2, .int v2_27)] [] I_28 L (f_X8_load_179 L k0 n v2_27 I_28) := by
  have hN : ∀ i, Nat.blt i 3 = true → i < gnL G := fun i h => hn ▸ Nat.blt_eq.mp h
  intro n
  induction n with
  | zero => intros; exact w_none _ _ _
  | succ n ih =>
    intros v2_27 I_28
    rw [f_X8_load_179]
    refine w_iload_n (q := 180) (i := 2) (j := 1) hc dX8_load_179 rfl rfl rfl ?_
    refine w_bipush (q := 182) hc dX8_load_180 cb_10 rfl ?_
    refine w_aload_n (q := 183) (i := 0) (j := 0) hc dX8_load_182 rfl rfl rfl ?_
    refine gf_X8_450 (q := 186) hc dX8_load_183 (k_43 hK) rfl ?_
    refine w_imul (q := 187) hc dX8_load_186  rfl ?_
    refine w_icmpge (q := 190) (tgt := 211) hc dX8_load_187 rfl rfl ?_ ?_
    · refine w_sub [0] rfl ?_
      exact hk0 I_28
    · refine w_aload_n (q := 191) (i := 0) (j := 0) hc dX8_load_190 rfl rfl rfl ?_
      refine gf_X8_7 (q := 194) hc dX8_load_191 (k_43 hK) (r_43_4 hR) rfl ?_
      refine w_bipush (q := 196) hc dX8_load_194 cb_11 rfl ?_
      refine w_iload_n (q := 197) (i := 2) (j := 1) hc dX8_load_196 rfl rfl rfl ?_
      refine w_iadd (q := 198) hc dX8_load_197  rfl ?_
      refine w_aload_n (q := 199) (i := 0) (j := 0) hc dX8_load_198 rfl rfl rfl ?_
      refine gf_X8_93 (q := 202) hc dX8_load_199 (k_43 hK) (r_43_44 hR) rfl ?_
      refine w_iload_n (q := 203) (i := 2) (j := 1) hc dX8_load_202 rfl rfl rfl ?_
      refine w_iald (q := 204) hc dX8_load_203 (k_68 hK) rfl ?_
      refine w_iast (q := 205) hc dX8_load_204 (k_44 hK) rfl (fun I_29 => ?_)
      refine w_iincB (q := 208) (i := 2) (j := 1) (lv' := fun v2_30 => [(2, .int v2_30), (0, .ref 43)]) hc dX8_load_205 rfl ci_1 (hN 2 rfl) (fun _ => rfl) rfl (fun v2_30 => ?_)
      refine w_goto (tgt := 179) hc dX8_load_208 rfl ?_
      refine w_sub [1, 0] rfl ?_
      exact ih v2_30 I_29
set_option maxRecDepth 100000 in
set_option maxHeartbeats 4000000 in
theorem wl_X8_load_57 {G : GT (Int32 × Mm)} {rm : Nat} (hc : Cx G cX8_load yX8_load.cls (some .int) 7 153) (hq : RetQ G anIW meW) (hK : gK G = lK rm) (hR : gR G = lR rm) (hn : gnL G = 3) (k0 : MI → ML → Option (Int32 × Mm)) (hk0 : ∀ (I_17 : MI) (L_18 : ML), WW G 93 [(0, .ref 43)] [] I_17 L_18 (k0 I_17 L_18)) : ∀ (n : Nat) (I_10 : MI) (L_11 : ML), WW G 57 [(0, .ref 43)] [] I_10 L_11 (f_X8_load_57 k0 n I_10 L_11) := by
  have hN : ∀ i, Nat.blt i 3 = true → i < gnL G := fun i h => hn ▸ Nat.blt_eq.mp h
  intro n
  induction n with
  | zero => intros; exact w_none _ _ _
  | succ n ih =>
    intros I_10 L_11
    rw [f_X8_load_57]
    refine w_aload_n (q := 58) (i := 0) (j := 0) hc dX8_load_57 rfl rfl rfl ?_
    refine w_callV_Rz (q := 61) (st := []) (args := []) (p := 43) hc (m_X8_good hK hR) dX8_load_58 ml_X8_408 cf_X8_good iv_X8_good (k_43 hK) (C := RX8) (T := TX8) (N := 45) rfl rfl (Nat.lt_of_succ_le (Nat.le_of_ble_eq_true rfl)) rfl rfl (Nat.le_of_ble_eq_true rfl) ⟨Nat.le_of_ble_eq_true rfl, Nat.le_of_ble_eq_true rfl⟩ rfl (fun q_12 => ?_)
    refine w_ifeq (q := 64) (tgt := 93) hc dX8_load_61 rfl rfl ?_ ?_
    · exact hk0 I_10 L_11
    · refine w_aload_n (q := 65) (i := 0) (j := 0) hc dX8_load_64 rfl rfl rfl ?_
      refine gf_X8_421 (q := 68) hc dX8_load_65 (k_43 hK) rfl ?_
      refine w_ifeq (q := 71) (tgt := 93) hc dX8_load_68 rfl rfl ?_ ?_
      · exact hk0 I_10 L_11
      · refine w_aload_n (q := 72) (i := 0) (j := 0) hc dX8_load_71 rfl rfl rfl ?_
        refine w_callV_Wv (q := 75) (st := []) (args := []) (p := 43) hc (m_X8_line hK hR) dX8_load_72 ml_X8_496 cf_X8_line iv_X8_line (k_43 hK) (C := RX8) (T := TX8) (N := 45) rfl rfl (Nat.lt_of_succ_le (Nat.le_of_ble_eq_true rfl)) rfl rfl (Nat.le_of_ble_eq_true rfl) ⟨Nat.le_of_ble_eq_true rfl, Nat.le_of_ble_eq_true rfl⟩ rfl (fun q_13 => ?_)
        refine w_aload_n (q := 76) (i := 0) (j := 0) hc dX8_load_75 rfl rfl rfl ?_
        refine w_aload_n (q := 77) (i := 0) (j := 0) hc dX8_load_76 rfl rfl rfl ?_
        refine w_bipush (q := 79) hc dX8_load_77 cb_59 rfl ?_
        refine w_callV_Rz (q := 82) (st := [.ref 43]) (args := [.int 59]) (p := 43) hc (m_X8_isSign hK hR) dX8_load_79 ml_X8_471 cf_X8_isSign iv_X8_isSign (k_43 hK) (C := RX8) (T := TX8) (N := 45) rfl rfl (Nat.lt_of_succ_le (Nat.le_of_ble_eq_true rfl)) rfl rfl (Nat.le_of_ble_eq_true rfl) ⟨Nat.le_of_ble_eq_true rfl, Nat.le_of_ble_eq_true rfl⟩ rfl (fun q_14 => ?_)
        refine w_iconst (q := 83) hc dX8_load_82 ci_2 rfl ?_
        refine w_callV_Wv (q := 86) (st := []) (args := [.int (b2i q_14), .int 2]) (p := 43) hc (m_X8_must hK hR) dX8_load_83 ml_X8_453 cf_X8_must iv_X8_must (k_43 hK) (C := RX8) (T := TX8) (N := 45) rfl rfl (Nat.lt_of_succ_le (Nat.le_of_ble_eq_true rfl)) rfl rfl (Nat.le_of_ble_eq_true rfl) ⟨Nat.le_of_ble_eq_true rfl, Nat.le_of_ble_eq_true rfl⟩ rfl (fun q_15 => ?_)
        refine w_aload_n (q := 87) (i := 0) (j := 0) hc dX8_load_86 rfl rfl rfl ?_
        refine w_callV_Wv (q := 90) (st := []) (args := []) (p := 43) hc (m_X8_goesOn hK hR) dX8_load_87 ml_X8_457 cf_X8_goesOn iv_X8_goesOn (k_43 hK) (C := RX8) (T := TX8) (N := 45) rfl rfl (Nat.lt_of_succ_le (Nat.le_of_ble_eq_true rfl)) rfl rfl (Nat.le_of_ble_eq_true rfl) ⟨Nat.le_of_ble_eq_true rfl, Nat.le_of_ble_eq_true rfl⟩ rfl (fun q_16 => ?_)
        refine w_goto (tgt := 57) hc dX8_load_90 rfl ?_
        exact ih q_16.1 q_16.2
set_option maxRecDepth 100000 in
set_option maxHeartbeats 4000000 in
theorem m_X8_load {l : Launch} {K : KT} {R : MR} {rm : Nat} {a1 : Int32} {I : MI} {L : ML} (hK0 : K = lK rm) (hR0 : R = lR rm) : MFg l yX8_load cX8_load 3 (some .int) 7 153 [.ref 43, .int a1] K R I L anIW meW (f_X8_load a1 I L) := by
  refine mf_of (plainFor_of_name (by decide)) (Nat.le_of_ble_eq_true rfl) ?_
  intro G hc _ hK1 hR1 hn hq
  have hK := hK1.trans hK0
  have hR := hR1.trans hR0
  have hN : ∀ i, Nat.blt i 3 = true → i < gnL G := fun i h => hn ▸ Nat.blt_eq.mp h
  unfold f_X8_load
  show WW G 0 [(0, .ref 43), (1, .int a1)] [] I L _
  refine w_aload_n (q := 1) (i := 0) (j := 0) hc dX8_load_0 rfl rfl rfl ?_
  refine w_iload_n (q := 2) (i := 1) (j := 1) hc dX8_load_1 rfl rfl rfl ?_
  refine w_i2l (q := 3) hc dX8_load_2  rfl ?_
  refine w_lconst (q := 4) hc dX8_load_3 cl_0 rfl ?_
  refine w_aload_n (q := 5) (i := 0) (j := 0) hc dX8_load_4 rfl rfl rfl ?_
  refine gf_X8_399 (q := 8) hc dX8_load_5 (k_43 hK) rfl ?_
  refine w_i2l (q := 9) hc dX8_load_8  rfl ?_
  refine w_callS_Rz (q := 12) (st := [.ref 43]) (args := [.long (Int32.toInt64 a1), .long 0, .long (Int32.toInt64 (I 43 30))]) hc (m_X8_isIn hK hR) dX8_load_9 ml_X8_114 cf_X8_isIn st_X8_isIn rfl rfl (Nat.le_of_ble_eq_true rfl) ⟨Nat.le_of_ble_eq_true rfl, Nat.le_of_ble_eq_true rfl⟩ rfl (fun q_1 => ?_)
  refine w_join (fun j20_414 : Bool → Option (Int32 × Mm) => ∀ (s0_2 : Bool), WW G 20 [(0, .ref 43), (1, .int a1)] [.int (b2i s0_2), .ref 43] I L (j20_414 s0_2)) ?_ ?_
  · intro s0_2
    refine w_callV_Wz (q := 23) (st := []) (args := [.int (b2i s0_2)]) (p := 43) hc (m_X8_is hK hR) dX8_load_20 ml_X8_194 cf_X8_is iv_X8_is (k_43 hK) (C := RX8) (T := TX8) (N := 45) rfl rfl (Nat.lt_of_succ_le (Nat.le_of_ble_eq_true rfl)) rfl rfl (Nat.le_of_ble_eq_true rfl) ⟨Nat.le_of_ble_eq_true rfl, Nat.le_of_ble_eq_true rfl⟩ rfl (fun q_3 => ?_)
    refine w_ifne (q := 26) (tgt := 28) hc dX8_load_23 rfl rfl ?_ ?_
    · refine w_iconst (q := 27) hc dX8_load_26 ci_m1 rfl ?_
      exact w_ireturn (v := (-1)) hc hq dX8_load_27 rfl rfl rfl
    · refine w_aload_n (q := 29) (i := 0) (j := 0) hc dX8_load_28 rfl rfl rfl ?_
      refine w_iload_n (q := 30) (i := 1) (j := 1) hc dX8_load_29 rfl rfl rfl ?_
      refine pf_X8_405 (q := 33) hc dX8_load_30 (k_43 hK) rfl (fun I_4 => ?_)
      refine w_aload_n (q := 34) (i := 0) (j := 0) hc dX8_load_33 rfl rfl rfl ?_
      refine w_iconst (q := 35) hc dX8_load_34 ci_0 rfl ?_
      refine pf_X8_414 (q := 38) hc dX8_load_35 (k_43 hK) rfl (fun I_5 => ?_)
      refine w_aload_n (q := 39) (i := 0) (j := 0) hc dX8_load_38 rfl rfl rfl ?_
      refine w_iconst (q := 40) hc dX8_load_39 ci_0 rfl ?_
      refine pf_X8_435 (q := 43) hc dX8_load_40 (k_43 hK) rfl (fun I_6 => ?_)
      refine w_aload_n (q := 44) (i := 0) (j := 0) hc dX8_load_43 rfl rfl rfl ?_
      refine w_iconst (q := 45) hc dX8_load_44 ci_0 rfl ?_
      refine pf_X8_450 (q := 48) hc dX8_load_45 (k_43 hK) rfl (fun I_7 => ?_)
      refine w_aload_n (q := 49) (i := 0) (j := 0) hc dX8_load_48 rfl rfl rfl ?_
      refine w_iconst (q := 50) hc dX8_load_49 ci_0 rfl ?_
      refine pf_X8_466 (q := 53) hc dX8_load_50 (k_43 hK) rfl (fun I_8 => ?_)
      refine w_aload_n (q := 54) (i := 0) (j := 0) hc dX8_load_53 rfl rfl rfl ?_
      refine w_callV_Wv (q := 57) (st := []) (args := []) (p := 43) hc (m_X8_reads hK hR) dX8_load_54 ml_X8_441 cf_X8_reads iv_X8_reads (k_43 hK) (C := RX8) (T := TX8) (N := 45) rfl rfl (Nat.lt_of_succ_le (Nat.le_of_ble_eq_true rfl)) rfl rfl (Nat.le_of_ble_eq_true rfl) ⟨Nat.le_of_ble_eq_true rfl, Nat.le_of_ble_eq_true rfl⟩ rfl (fun q_9 => ?_)
      refine w_sub [0] rfl ?_
      refine wl_X8_load_57 hc hq hK hR hn _ ?_ FU q_9.1 q_9.2
      intro I_17 L_18
      refine w_aload_n (q := 94) (i := 0) (j := 0) hc dX8_load_93 rfl rfl rfl ?_
      refine w_iconst (q := 95) hc dX8_load_94 ci_0 rfl ?_
      refine pf_X8_399 (q := 98) hc dX8_load_95 (k_43 hK) rfl (fun I_19 => ?_)
      refine w_aload_n (q := 99) (i := 0) (j := 0) hc dX8_load_98 rfl rfl rfl ?_
      refine w_aload_n (q := 100) (i := 0) (j := 0) hc dX8_load_99 rfl rfl rfl ?_
      refine gf_X8_435 (q := 103) hc dX8_load_100 (k_43 hK) rfl ?_
      refine pf_X8_82 (q := 106) hc dX8_load_103 (k_43 hK) rfl (fun I_20 => ?_)
      refine w_aload_n (q := 107) (i := 0) (j := 0) hc dX8_load_106 rfl rfl rfl ?_
      refine w_aload_n (q := 108) (i := 0) (j := 0) hc dX8_load_107 rfl rfl rfl ?_
      refine gf_X8_435 (q := 111) hc dX8_load_108 (k_43 hK) rfl ?_
      refine w_join (fun j122_417 : Int32 → Option (Int32 × Mm) => ∀ (s0_21 : Int32), WW G 122 [(0, .ref 43)] [.int s0_21, .ref 43] I_20 L_18 (j122_417 s0_21)) ?_ ?_
      · intro s0_21
        refine pf_X8_86 (q := 125) hc dX8_load_122 (k_43 hK) rfl (fun I_22 => ?_)
        refine w_aload_n (q := 126) (i := 0) (j := 0) hc dX8_load_125 rfl rfl rfl ?_
        refine gf_X8_435 (q := 129) hc dX8_load_126 (k_43 hK) rfl ?_
        refine w_ifle (q := 132) (tgt := 139) hc dX8_load_129 rfl rfl ?_ ?_
        · refine w_aload_n (q := 140) (i := 0) (j := 0) hc dX8_load_139 rfl rfl rfl ?_
          refine w_aload_n (q := 141) (i := 0) (j := 0) hc dX8_load_140 rfl rfl rfl ?_
          refine gf_X8_466 (q := 144) hc dX8_load_141 (k_43 hK) rfl ?_
          refine pf_X8_118 (q := 147) hc dX8_load_144 (k_43 hK) rfl (fun I_23 => ?_)
          refine w_aload_n (q := 148) (i := 0) (j := 0) hc dX8_load_147 rfl rfl rfl ?_
          refine gf_X8_7 (q := 151) hc dX8_load_148 (k_43 hK) (r_43_4 hR) rfl ?_
          refine w_iconst (q := 152) hc dX8_load_151 ci_0 rfl ?_
          refine w_aload_n (q := 153) (i := 0) (j := 0) hc dX8_load_152 rfl rfl rfl ?_
          refine gf_X8_450 (q := 156) hc dX8_load_153 (k_43 hK) rfl ?_
          refine w_iast (q := 157) hc dX8_load_156 (k_44 hK) rfl (fun I_24 => ?_)
          refine w_aload_n (q := 158) (i := 0) (j := 0) hc dX8_load_157 rfl rfl rfl ?_
          refine gf_X8_16 (q := 161) hc dX8_load_158 (k_43 hK) (r_43_6 hR) rfl ?_
          refine w_callS_Wv (q := 164) (st := []) (args := [.ref 46]) hc (m_X8_isHome hK hR (kB hK (k_46 hK))) dX8_load_161 ml_X8_96 cf_X8_isHome st_X8_isHome rfl rfl (Nat.le_of_ble_eq_true rfl) ⟨Nat.le_of_ble_eq_true rfl, Nat.le_of_ble_eq_true rfl⟩ rfl (fun q_25 => ?_)
          refine w_aload_n (q := 165) (i := 0) (j := 0) hc dX8_load_164 rfl rfl rfl ?_
          refine gf_X8_16 (q := 168) hc dX8_load_165 (k_43 hK) (r_43_6 hR) rfl ?_
          refine w_iconst (q := 169) hc dX8_load_168 ci_0 rfl ?_
          refine w_aload_n (q := 170) (i := 0) (j := 0) hc dX8_load_169 rfl rfl rfl ?_
          refine gf_X8_7 (q := 173) hc dX8_load_170 (k_43 hK) (r_43_4 hR) rfl ?_
          refine w_iconst (q := 174) hc dX8_load_173 ci_1 rfl ?_
          refine w_callS_Wv (q := 177) (st := []) (args := [.ref 46, .int 0, .ref 44, .int 1]) hc (m_X8_copies hK hR (kB hK (k_46 hK)) (kB hK (k_44 hK))) dX8_load_174 ml_X8_100 cf_X8_copies st_X8_copies rfl rfl (Nat.le_of_ble_eq_true rfl) ⟨Nat.le_of_ble_eq_true rfl, Nat.le_of_ble_eq_true rfl⟩ rfl (fun q_26 => ?_)
          refine w_iconst (q := 178) hc dX8_load_177 ci_0 rfl ?_
          refine w_istore_n (q := 179) (i := 2) (lv' := [(2, .int 0), (0, .ref 43)]) hc dX8_load_178 rfl (hN 2 rfl) rfl rfl ?_
          refine w_sub [1, 0] rfl ?_
          refine wl_X8_load_179 q_26.2 hc hq hK hR hn _ ?_ FU 0 q_26.1
          intro I_31
          refine w_aload_n (q := 212) (i := 0) (j := 0) hc dX8_load_211 rfl rfl rfl ?_
          refine w_iconst (q := 213) hc dX8_load_212 ci_0 rfl ?_
          refine pf_X8_121 (q := 216) hc dX8_load_213 (k_43 hK) rfl (fun I_32 => ?_)
          refine w_aload_n (q := 217) (i := 0) (j := 0) hc dX8_load_216 rfl rfl rfl ?_
          refine w_iconst (q := 218) hc dX8_load_217 ci_0 rfl ?_
          refine pf_X8_171 (q := 221) hc dX8_load_218 (k_43 hK) bz_0 rfl (fun I_33 => ?_)
          refine w_aload_n (q := 222) (i := 0) (j := 0) hc dX8_load_221 rfl rfl rfl ?_
          refine gf_X8_450 (q := 225) hc dX8_load_222 (k_43 hK) rfl ?_
          exact w_ireturn (v := (I_33 43 41)) hc hq dX8_load_225 rfl rfl rfl
        · refine w_aload_n (q := 133) (i := 0) (j := 0) hc dX8_load_132 rfl rfl rfl ?_
          refine w_bipush (q := 135) hc dX8_load_133 cb_9 rfl ?_
          refine w_callV_Wi (q := 138) (st := []) (args := [.int 9]) (p := 43) hc (m_X8_refuse hK hR) dX8_load_135 ml_X8_266 cf_X8_refuse iv_X8_refuse (k_43 hK) (C := RX8) (T := TX8) (N := 45) rfl rfl (Nat.lt_of_succ_le (Nat.le_of_ble_eq_true rfl)) rfl rfl (Nat.le_of_ble_eq_true rfl) ⟨Nat.le_of_ble_eq_true rfl, Nat.le_of_ble_eq_true rfl⟩ rfl (fun q_34 => ?_)
          exact w_ireturn (v := q_34.1) hc hq dX8_load_138 rfl rfl rfl
      · intro j122_417 hj122_417
        refine w_ifle (q := 114) (tgt := 121) hc dX8_load_111 rfl rfl ?_ ?_
        · refine w_iconst (q := 122) hc dX8_load_121 ci_m1 rfl ?_
          exact hj122_417 (-1)
        · refine w_aload_n (q := 115) (i := 0) (j := 0) hc dX8_load_114 rfl rfl rfl ?_
          refine gf_X8_438 (q := 118) hc dX8_load_115 (k_43 hK) rfl ?_
          refine w_goto (tgt := 122) hc dX8_load_118 rfl ?_
          exact hj122_417 (I_20 43 34)
  · intro j20_414 hj20_414
    refine w_ifeq (q := 15) (tgt := 19) hc dX8_load_12 rfl rfl ?_ ?_
    · refine w_iconst (q := 20) hc dX8_load_19 ci_1 rfl ?_
      exact hj20_414 true
    · refine w_iconst (q := 16) hc dX8_load_15 ci_0 rfl ?_
      refine w_goto (tgt := 20) hc dX8_load_16 rfl ?_
      exact hj20_414 false
set_option maxRecDepth 100000 in
set_option maxHeartbeats 4000000 in
theorem m_X8_fault {l : Launch} {K : KT} {R : MR} {rm : Nat} {a1 : Int32} {I : MI} {L : ML} (hK0 : K = lK rm) (hR0 : R = lR rm) : MFg l yX8_fault cX8_fault 2 (some .int) 0 0 [.ref 43, .int a1] K R I L anIW meW (f_X8_fault a1 I L) := by
  refine mf_of (plainFor_of_name (by decide)) (Nat.le_of_ble_eq_true rfl) ?_
  intro G hc _ hK1 hR1 hn hq
  have hK := hK1.trans hK0
  have hR := hR1.trans hR0
  have hN : ∀ i, Nat.blt i 2 = true → i < gnL G := fun i h => hn ▸ Nat.blt_eq.mp h
  unfold f_X8_fault
  show WW G 0 [(0, .ref 43), (1, .int a1)] [] I L _
  refine w_aload_n (q := 1) (i := 0) (j := 0) hc dX8_fault_0 rfl rfl rfl ?_
  refine w_iconst (q := 2) hc dX8_fault_1 ci_0 rfl ?_
  refine pf_X8_104 (q := 5) hc dX8_fault_2 (k_43 hK) rfl (fun I_1 => ?_)
  refine w_iload_n (q := 6) (i := 1) (j := 1) hc dX8_fault_5 rfl rfl rfl ?_
  refine w_ifne (q := 9) (tgt := 16) hc dX8_fault_6 rfl rfl ?_ ?_
  · refine w_aload_n (q := 10) (i := 0) (j := 0) hc dX8_fault_9 rfl rfl rfl ?_
    refine gf_X8_82 (q := 13) hc dX8_fault_10 (k_43 hK) rfl ?_
    refine w_goto (tgt := 29) hc dX8_fault_13 rfl ?_
    exact w_ireturn (v := (I_1 43 31)) hc hq dX8_fault_29 rfl rfl rfl
  · refine w_iload_n (q := 17) (i := 1) (j := 1) hc dX8_fault_16 rfl rfl rfl ?_
    refine w_iconst (q := 18) hc dX8_fault_17 ci_1 rfl ?_
    refine w_icmpne (q := 21) (tgt := 28) hc dX8_fault_18 rfl rfl ?_ ?_
    · refine w_aload_n (q := 22) (i := 0) (j := 0) hc dX8_fault_21 rfl rfl rfl ?_
      refine gf_X8_86 (q := 25) hc dX8_fault_22 (k_43 hK) rfl ?_
      refine w_goto (tgt := 29) hc dX8_fault_25 rfl ?_
      exact w_ireturn (v := (I_1 43 32)) hc hq dX8_fault_29 rfl rfl rfl
    · refine w_iconst (q := 29) hc dX8_fault_28 ci_m1 rfl ?_
      exact w_ireturn (v := (-1)) hc hq dX8_fault_29 rfl rfl rfl
