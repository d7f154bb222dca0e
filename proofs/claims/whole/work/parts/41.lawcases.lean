def RS (rm rm1 : Nat) : Prop := rm1 = rm ∨ (rm < rm1 ∧ rm1 ≤ 5040 ∧ (rm = 0 ∨ rm1 = 5040 ∨ 2 * rm ≤ rm1))
theorem RS.le {rm rm1 : Nat} (h : RS rm rm1) (hr : rm ≤ 5040) : rm1 ≤ 5040 := by rcases h with h | h <;> omega
/-- status -/
def PR_0 (Inv : MI → ML → Nat → Prop) : Prop := ∀ (I : MI) (L : ML) (rm : Nat), Inv I L rm → ∃ (r : Int32), f_X7_status I L = some r ∧ ∃ (I2 : MI) (L2 : ML), f_X8_status I L = some (r, I2, L2) ∧ Inv I2 L2 rm
set_option maxRecDepth 100000 in
set_option maxHeartbeats 4000000 in
theorem lc_0 {G : GT Unit} {b Ls rm c s : Nat} {xs : Nat → Int32} {x3 : Int32} {I : MI} {L : ML} {X : Option Unit} {Inv : MI → ML → Nat → Prop} (hp : PR_0 Inv) (hc : Cx G code RL ret 14 552) (hX : LX G b Ls xs rm c s) (h1 : vp_in (x3 + 1) Ls) (h2 : vp_in (x3 + 2) Ls) (h3 : vp_in (x3 + 3) Ls) (h4 : vp_in (x3 + 4) Ls) (h5 : vp_in (x3 + 5) Ls) (hInv : Inv I L rm) (hrm : rm ≤ 5040) (hcb : c + 20 ≤ 600000) (hsb : s + 90748 ≤ 7302250)
    (kk : ∀ (G : GT Unit) (rm1 c1 s1 : Nat) (I2 : MI) (L2 : ML), Cx G code RL ret 14 552 → LX G b Ls xs rm1 c1 s1 → Inv I2 L2 rm1 → RS rm rm1 → c1 = c + mcA rm rm1 → s1 = s + msA rm rm1 → WW G 2377 [(0, .ref 4000000), (1, .ref 0), (2, .ref 43), (3, .int x3)] [] I2 L2 X) : WW G 288 [(0, .ref 4000000), (1, .ref 0), (2, .ref 43), (3, .int x3)] [] I L X := by
  obtain ⟨r, e1, I2, L2, e2, hI2⟩ := hp I L rm hInv
  refine w_aload_n (q := 289) (i := 1) (j := 1) hc dL_law_288 rfl rfl rfl ?_
  refine w_lawV (x := r) (q := 292) (st := []) (args := []) (p := 0) e1 hc (m_X7_status hX.1 hX.2.1) dL_law_289 ml_L_13 cf_X7_status iv_X7_status (k_0 hX.1) (C := RX7) (T := TX7) (N := 7) rfl rfl (by decide) rfl rfl (Nat.le_of_ble_eq_true rfl) ⟨Nat.le_of_ble_eq_true rfl, Nat.le_of_ble_eq_true rfl⟩ rfl ?_
  show WW G 292 [(0, .ref 4000000), (1, .ref 0), (2, .ref 43), (3, .int x3)] [.int r] I L X
  refine w_aload_n (q := 293) (i := 2) (j := 2) hc dL_law_292 rfl rfl rfl ?_
  refine w_lawV (x := (r, I2, L2)) (q := 296) (st := [.int r]) (args := []) (p := 43) e2 hc (m_X8_status hX.1 hX.2.1) dL_law_293 ml_L_17 cf_X8_status iv_X8_status (k_43 hX.1) (C := RX8) (T := TX8) (N := 45) rfl rfl (by decide) rfl rfl (Nat.le_of_ble_eq_true rfl) ⟨Nat.le_of_ble_eq_true rfl, Nat.le_of_ble_eq_true rfl⟩ rfl ?_
  show WW G 296 [(0, .ref 4000000), (1, .ref 0), (2, .ref 43), (3, .int x3)] [.int r, .int r] I2 L2 X
  refine w_icmpeqT (tgt := 2377) hc dL_law_296 rfl ?_
  exact kk G rm c s I2 L2 hc hX hI2 (Or.inl rfl) (by rw [mcA_0]; rfl) (by rw [msA_0]; rfl)
/-- feed -/
def PR_1 (Inv : MI → ML → Nat → Prop) : Prop := ∀ (I : MI) (L : ML) (rm : Nat) (a0 : Int32) (a1 : Int32) (a2 : Int32) (a3 : Int32) (a4 : Int32), Inv I L rm → ∃ (r : Int32) (I1 : MI) (L1 : ML), f_X7_feed a0 a1 a2 a3 a4 I L = some (r, I1, L1) ∧ ∃ (I2 : MI) (L2 : ML), f_X8_feed a0 a1 a2 a3 a4 I1 L1 = some (r, I2, L2) ∧ Inv I2 L2 rm
set_option maxRecDepth 100000 in
set_option maxHeartbeats 4000000 in
theorem lc_1 {G : GT Unit} {b Ls rm c s : Nat} {xs : Nat → Int32} {x3 : Int32} {I : MI} {L : ML} {X : Option Unit} {Inv : MI → ML → Nat → Prop} (hp : PR_1 Inv) (hc : Cx G code RL ret 14 552) (hX : LX G b Ls xs rm c s) (h1 : vp_in (x3 + 1) Ls) (h2 : vp_in (x3 + 2) Ls) (h3 : vp_in (x3 + 3) Ls) (h4 : vp_in (x3 + 4) Ls) (h5 : vp_in (x3 + 5) Ls) (hInv : Inv I L rm) (hrm : rm ≤ 5040) (hcb : c + 20 ≤ 600000) (hsb : s + 90748 ≤ 7302250)
    (kk : ∀ (G : GT Unit) (rm1 c1 s1 : Nat) (I2 : MI) (L2 : ML), Cx G code RL ret 14 552 → LX G b Ls xs rm1 c1 s1 → Inv I2 L2 rm1 → RS rm rm1 → c1 = c + mcA rm rm1 → s1 = s + msA rm rm1 → WW G 2377 [(0, .ref 4000000), (1, .ref 0), (2, .ref 43), (3, .int x3)] [] I2 L2 X) : WW G 301 [(0, .ref 4000000), (1, .ref 0), (2, .ref 43), (3, .int x3)] [] I L X := by
  obtain ⟨r, I1, L1, e1, I2, L2, e2, hI2⟩ := hp I L rm (xs (ix (x3 + 1))) (xs (ix (x3 + 2))) (xs (ix (x3 + 3))) (xs (ix (x3 + 4))) (xs (ix (x3 + 5))) hInv
  refine w_aload_n (q := 302) (i := 1) (j := 1) hc dL_law_301 rfl rfl rfl ?_
  refine w_aload_n (q := 303) (i := 0) (j := 0) hc dL_law_302 rfl rfl rfl ?_
  refine w_iload_n (q := 304) (i := 3) (j := 3) hc dL_law_303 rfl rfl rfl ?_
  refine w_iconst (q := 305) hc dL_law_304 ci_1 rfl ?_
  refine w_iadd (q := 306) hc dL_law_305 rfl ?_
  refine w_sld4 (q := 307) hc hX dL_law_306 h1 rfl ?_
  refine w_aload_n (q := 308) (i := 0) (j := 0) hc dL_law_307 rfl rfl rfl ?_
  refine w_iload_n (q := 309) (i := 3) (j := 3) hc dL_law_308 rfl rfl rfl ?_
  refine w_iconst (q := 310) hc dL_law_309 ci_2 rfl ?_
  refine w_iadd (q := 311) hc dL_law_310 rfl ?_
  refine w_sld4 (q := 312) hc hX dL_law_311 h2 rfl ?_
  refine w_aload_n (q := 313) (i := 0) (j := 0) hc dL_law_312 rfl rfl rfl ?_
  refine w_iload_n (q := 314) (i := 3) (j := 3) hc dL_law_313 rfl rfl rfl ?_
  refine w_iconst (q := 315) hc dL_law_314 ci_3 rfl ?_
  refine w_iadd (q := 316) hc dL_law_315 rfl ?_
  refine w_sld4 (q := 317) hc hX dL_law_316 h3 rfl ?_
  refine w_aload_n (q := 318) (i := 0) (j := 0) hc dL_law_317 rfl rfl rfl ?_
  refine w_iload_n (q := 319) (i := 3) (j := 3) hc dL_law_318 rfl rfl rfl ?_
  refine w_iconst (q := 320) hc dL_law_319 ci_4 rfl ?_
  refine w_iadd (q := 321) hc dL_law_320 rfl ?_
  refine w_sld4 (q := 322) hc hX dL_law_321 h4 rfl ?_
  refine w_aload_n (q := 323) (i := 0) (j := 0) hc dL_law_322 rfl rfl rfl ?_
  refine w_iload_n (q := 324) (i := 3) (j := 3) hc dL_law_323 rfl rfl rfl ?_
  refine w_iconst (q := 325) hc dL_law_324 ci_5 rfl ?_
  refine w_iadd (q := 326) hc dL_law_325 rfl ?_
  refine w_sld4 (q := 327) hc hX dL_law_326 h5 rfl ?_
  refine w_lawV (x := (r, I1, L1)) (q := 330) (st := []) (args := [.int (xs (ix (x3 + 1))), .int (xs (ix (x3 + 2))), .int (xs (ix (x3 + 3))), .int (xs (ix (x3 + 4))), .int (xs (ix (x3 + 5)))]) (p := 0) e1 hc (m_X7_feed hX.1 hX.2.1) dL_law_327 ml_L_18 cf_X7_feed iv_X7_feed (k_0 hX.1) (C := RX7) (T := TX7) (N := 7) rfl rfl (by decide) rfl rfl (Nat.le_of_ble_eq_true rfl) ⟨Nat.le_of_ble_eq_true rfl, Nat.le_of_ble_eq_true rfl⟩ rfl ?_
  show WW G 330 [(0, .ref 4000000), (1, .ref 0), (2, .ref 43), (3, .int x3)] [.int r] I1 L1 X
  refine w_aload_n (q := 331) (i := 2) (j := 2) hc dL_law_330 rfl rfl rfl ?_
  refine w_aload_n (q := 332) (i := 0) (j := 0) hc dL_law_331 rfl rfl rfl ?_
  refine w_iload_n (q := 333) (i := 3) (j := 3) hc dL_law_332 rfl rfl rfl ?_
  refine w_iconst (q := 334) hc dL_law_333 ci_1 rfl ?_
  refine w_iadd (q := 335) hc dL_law_334 rfl ?_
  refine w_sld4 (q := 336) hc hX dL_law_335 h1 rfl ?_
  refine w_aload_n (q := 337) (i := 0) (j := 0) hc dL_law_336 rfl rfl rfl ?_
  refine w_iload_n (q := 338) (i := 3) (j := 3) hc dL_law_337 rfl rfl rfl ?_
  refine w_iconst (q := 339) hc dL_law_338 ci_2 rfl ?_
  refine w_iadd (q := 340) hc dL_law_339 rfl ?_
  refine w_sld4 (q := 341) hc hX dL_law_340 h2 rfl ?_
  refine w_aload_n (q := 342) (i := 0) (j := 0) hc dL_law_341 rfl rfl rfl ?_
  refine w_iload_n (q := 343) (i := 3) (j := 3) hc dL_law_342 rfl rfl rfl ?_
  refine w_iconst (q := 344) hc dL_law_343 ci_3 rfl ?_
  refine w_iadd (q := 345) hc dL_law_344 rfl ?_
  refine w_sld4 (q := 346) hc hX dL_law_345 h3 rfl ?_
  refine w_aload_n (q := 347) (i := 0) (j := 0) hc dL_law_346 rfl rfl rfl ?_
  refine w_iload_n (q := 348) (i := 3) (j := 3) hc dL_law_347 rfl rfl rfl ?_
  refine w_iconst (q := 349) hc dL_law_348 ci_4 rfl ?_
  refine w_iadd (q := 350) hc dL_law_349 rfl ?_
  refine w_sld4 (q := 351) hc hX dL_law_350 h4 rfl ?_
  refine w_aload_n (q := 352) (i := 0) (j := 0) hc dL_law_351 rfl rfl rfl ?_
  refine w_iload_n (q := 353) (i := 3) (j := 3) hc dL_law_352 rfl rfl rfl ?_
  refine w_iconst (q := 354) hc dL_law_353 ci_5 rfl ?_
  refine w_iadd (q := 355) hc dL_law_354 rfl ?_
  refine w_sld4 (q := 356) hc hX dL_law_355 h5 rfl ?_
  refine w_lawV (x := (r, I2, L2)) (q := 359) (st := [.int r]) (args := [.int (xs (ix (x3 + 1))), .int (xs (ix (x3 + 2))), .int (xs (ix (x3 + 3))), .int (xs (ix (x3 + 4))), .int (xs (ix (x3 + 5)))]) (p := 43) e2 hc (m_X8_feed hX.1 hX.2.1) dL_law_356 ml_L_22 cf_X8_feed iv_X8_feed (k_43 hX.1) (C := RX8) (T := TX8) (N := 45) rfl rfl (by decide) rfl rfl (Nat.le_of_ble_eq_true rfl) ⟨Nat.le_of_ble_eq_true rfl, Nat.le_of_ble_eq_true rfl⟩ rfl ?_
  show WW G 359 [(0, .ref 4000000), (1, .ref 0), (2, .ref 43), (3, .int x3)] [.int r, .int r] I2 L2 X
  refine w_icmpeqT (tgt := 2377) hc dL_law_359 rfl ?_
  exact kk G rm c s I2 L2 hc hX hI2 (Or.inl rfl) (by rw [mcA_0]; rfl) (by rw [msA_0]; rfl)
/-- load -/
def PR_2 (Inv : MI → ML → Nat → Prop) : Prop := ∀ (I : MI) (L : ML) (rm : Nat) (a0 : Int32), Inv I L rm → ∃ (r : Int32) (I1 : MI) (L1 : ML), f_X7_load a0 I L = some (r, I1, L1) ∧ ∃ (I2 : MI) (L2 : ML), f_X8_load a0 I1 L1 = some (r, I2, L2) ∧ Inv I2 L2 rm
set_option maxRecDepth 100000 in
set_option maxHeartbeats 4000000 in
theorem lc_2 {G : GT Unit} {b Ls rm c s : Nat} {xs : Nat → Int32} {x3 : Int32} {I : MI} {L : ML} {X : Option Unit} {Inv : MI → ML → Nat → Prop} (hp : PR_2 Inv) (hc : Cx G code RL ret 14 552) (hX : LX G b Ls xs rm c s) (h1 : vp_in (x3 + 1) Ls) (h2 : vp_in (x3 + 2) Ls) (h3 : vp_in (x3 + 3) Ls) (h4 : vp_in (x3 + 4) Ls) (h5 : vp_in (x3 + 5) Ls) (hInv : Inv I L rm) (hrm : rm ≤ 5040) (hcb : c + 20 ≤ 600000) (hsb : s + 90748 ≤ 7302250)
    (kk : ∀ (G : GT Unit) (rm1 c1 s1 : Nat) (I2 : MI) (L2 : ML), Cx G code RL ret 14 552 → LX G b Ls xs rm1 c1 s1 → Inv I2 L2 rm1 → RS rm rm1 → c1 = c + mcA rm rm1 → s1 = s + msA rm rm1 → WW G 2377 [(0, .ref 4000000), (1, .ref 0), (2, .ref 43), (3, .int x3)] [] I2 L2 X) : WW G 364 [(0, .ref 4000000), (1, .ref 0), (2, .ref 43), (3, .int x3)] [] I L X := by
  obtain ⟨r, I1, L1, e1, I2, L2, e2, hI2⟩ := hp I L rm (xs (ix (x3 + 1))) hInv
  refine w_aload_n (q := 365) (i := 1) (j := 1) hc dL_law_364 rfl rfl rfl ?_
  refine w_aload_n (q := 366) (i := 0) (j := 0) hc dL_law_365 rfl rfl rfl ?_
  refine w_iload_n (q := 367) (i := 3) (j := 3) hc dL_law_366 rfl rfl rfl ?_
  refine w_iconst (q := 368) hc dL_law_367 ci_1 rfl ?_
  refine w_iadd (q := 369) hc dL_law_368 rfl ?_
  refine w_sld4 (q := 370) hc hX dL_law_369 h1 rfl ?_
  refine w_lawV (x := (r, I1, L1)) (q := 373) (st := []) (args := [.int (xs (ix (x3 + 1)))]) (p := 0) e1 hc (m_X7_load hX.1 hX.2.1) dL_law_370 ml_L_23 cf_X7_load iv_X7_load (k_0 hX.1) (C := RX7) (T := TX7) (N := 7) rfl rfl (by decide) rfl rfl (Nat.le_of_ble_eq_true rfl) ⟨Nat.le_of_ble_eq_true rfl, Nat.le_of_ble_eq_true rfl⟩ rfl ?_
  show WW G 373 [(0, .ref 4000000), (1, .ref 0), (2, .ref 43), (3, .int x3)] [.int r] I1 L1 X
  refine w_aload_n (q := 374) (i := 2) (j := 2) hc dL_law_373 rfl rfl rfl ?_
  refine w_aload_n (q := 375) (i := 0) (j := 0) hc dL_law_374 rfl rfl rfl ?_
  refine w_iload_n (q := 376) (i := 3) (j := 3) hc dL_law_375 rfl rfl rfl ?_
  refine w_iconst (q := 377) hc dL_law_376 ci_1 rfl ?_
  refine w_iadd (q := 378) hc dL_law_377 rfl ?_
  refine w_sld4 (q := 379) hc hX dL_law_378 h1 rfl ?_
  refine w_lawV (x := (r, I2, L2)) (q := 382) (st := [.int r]) (args := [.int (xs (ix (x3 + 1)))]) (p := 43) e2 hc (m_X8_load hX.1 hX.2.1) dL_law_379 ml_L_27 cf_X8_load iv_X8_load (k_43 hX.1) (C := RX8) (T := TX8) (N := 45) rfl rfl (by decide) rfl rfl (Nat.le_of_ble_eq_true rfl) ⟨Nat.le_of_ble_eq_true rfl, Nat.le_of_ble_eq_true rfl⟩ rfl ?_
  show WW G 382 [(0, .ref 4000000), (1, .ref 0), (2, .ref 43), (3, .int x3)] [.int r, .int r] I2 L2 X
  refine w_icmpeqT (tgt := 2377) hc dL_law_382 rfl ?_
  exact kk G rm c s I2 L2 hc hX hI2 (Or.inl rfl) (by rw [mcA_0]; rfl) (by rw [msA_0]; rfl)
/-- fault -/
def PR_3 (Inv : MI → ML → Nat → Prop) : Prop := ∀ (I : MI) (L : ML) (rm : Nat) (a0 : Int32), Inv I L rm → ∃ (r : Int32), f_X7_fault a0 I L = some r ∧ ∃ (I2 : MI) (L2 : ML), f_X8_fault a0 I L = some (r, I2, L2) ∧ Inv I2 L2 rm
set_option maxRecDepth 100000 in
set_option maxHeartbeats 4000000 in
theorem lc_3 {G : GT Unit} {b Ls rm c s : Nat} {xs : Nat → Int32} {x3 : Int32} {I : MI} {L : ML} {X : Option Unit} {Inv : MI → ML → Nat → Prop} (hp : PR_3 Inv) (hc : Cx G code RL ret 14 552) (hX : LX G b Ls xs rm c s) (h1 : vp_in (x3 + 1) Ls) (h2 : vp_in (x3 + 2) Ls) (h3 : vp_in (x3 + 3) Ls) (h4 : vp_in (x3 + 4) Ls) (h5 : vp_in (x3 + 5) Ls) (hInv : Inv I L rm) (hrm : rm ≤ 5040) (hcb : c + 20 ≤ 600000) (hsb : s + 90748 ≤ 7302250)
    (kk : ∀ (G : GT Unit) (rm1 c1 s1 : Nat) (I2 : MI) (L2 : ML), Cx G code RL ret 14 552 → LX G b Ls xs rm1 c1 s1 → Inv I2 L2 rm1 → RS rm rm1 → c1 = c + mcA rm rm1 → s1 = s + msA rm rm1 → WW G 2377 [(0, .ref 4000000), (1, .ref 0), (2, .ref 43), (3, .int x3)] [] I2 L2 X) : WW G 387 [(0, .ref 4000000), (1, .ref 0), (2, .ref 43), (3, .int x3)] [] I L X := by
  obtain ⟨r, e1, I2, L2, e2, hI2⟩ := hp I L rm (xs (ix (x3 + 1))) hInv
  refine w_aload_n (q := 388) (i := 1) (j := 1) hc dL_law_387 rfl rfl rfl ?_
  refine w_aload_n (q := 389) (i := 0) (j := 0) hc dL_law_388 rfl rfl rfl ?_
  refine w_iload_n (q := 390) (i := 3) (j := 3) hc dL_law_389 rfl rfl rfl ?_
  refine w_iconst (q := 391) hc dL_law_390 ci_1 rfl ?_
  refine w_iadd (q := 392) hc dL_law_391 rfl ?_
  refine w_sld4 (q := 393) hc hX dL_law_392 h1 rfl ?_
  refine w_lawV (x := r) (q := 396) (st := []) (args := [.int (xs (ix (x3 + 1)))]) (p := 0) e1 hc (m_X7_fault hX.1 hX.2.1) dL_law_393 ml_L_28 cf_X7_fault iv_X7_fault (k_0 hX.1) (C := RX7) (T := TX7) (N := 7) rfl rfl (by decide) rfl rfl (Nat.le_of_ble_eq_true rfl) ⟨Nat.le_of_ble_eq_true rfl, Nat.le_of_ble_eq_true rfl⟩ rfl ?_
  show WW G 396 [(0, .ref 4000000), (1, .ref 0), (2, .ref 43), (3, .int x3)] [.int r] I L X
  refine w_aload_n (q := 397) (i := 2) (j := 2) hc dL_law_396 rfl rfl rfl ?_
  refine w_aload_n (q := 398) (i := 0) (j := 0) hc dL_law_397 rfl rfl rfl ?_
  refine w_iload_n (q := 399) (i := 3) (j := 3) hc dL_law_398 rfl rfl rfl ?_
  refine w_iconst (q := 400) hc dL_law_399 ci_1 rfl ?_
  refine w_iadd (q := 401) hc dL_law_400 rfl ?_
  refine w_sld4 (q := 402) hc hX dL_law_401 h1 rfl ?_
  refine w_lawV (x := (r, I2, L2)) (q := 405) (st := [.int r]) (args := [.int (xs (ix (x3 + 1)))]) (p := 43) e2 hc (m_X8_fault hX.1 hX.2.1) dL_law_402 ml_L_31 cf_X8_fault iv_X8_fault (k_43 hX.1) (C := RX8) (T := TX8) (N := 45) rfl rfl (by decide) rfl rfl (Nat.le_of_ble_eq_true rfl) ⟨Nat.le_of_ble_eq_true rfl, Nat.le_of_ble_eq_true rfl⟩ rfl ?_
  show WW G 405 [(0, .ref 4000000), (1, .ref 0), (2, .ref 43), (3, .int x3)] [.int r, .int r] I2 L2 X
  refine w_icmpeqT (tgt := 2377) hc dL_law_405 rfl ?_
  exact kk G rm c s I2 L2 hc hX hI2 (Or.inl rfl) (by rw [mcA_0]; rfl) (by rw [msA_0]; rfl)
/-- many -/
def PR_4 (Inv : MI → ML → Nat → Prop) : Prop := ∀ (I : MI) (L : ML) (rm : Nat) (a0 : Int32), Inv I L rm → ∃ (r : Int32) (I1 : MI) (L1 : ML), f_X7_many a0 I L = some (r, I1, L1) ∧ ∃ (I2 : MI) (L2 : ML), f_X8_many a0 I1 L1 = some (r, I2, L2) ∧ Inv I2 L2 rm
set_option maxRecDepth 100000 in
set_option maxHeartbeats 4000000 in
theorem lc_4 {G : GT Unit} {b Ls rm c s : Nat} {xs : Nat → Int32} {x3 : Int32} {I : MI} {L : ML} {X : Option Unit} {Inv : MI → ML → Nat → Prop} (hp : PR_4 Inv) (hc : Cx G code RL ret 14 552) (hX : LX G b Ls xs rm c s) (h1 : vp_in (x3 + 1) Ls) (h2 : vp_in (x3 + 2) Ls) (h3 : vp_in (x3 + 3) Ls) (h4 : vp_in (x3 + 4) Ls) (h5 : vp_in (x3 + 5) Ls) (hInv : Inv I L rm) (hrm : rm ≤ 5040) (hcb : c + 20 ≤ 600000) (hsb : s + 90748 ≤ 7302250)
    (kk : ∀ (G : GT Unit) (rm1 c1 s1 : Nat) (I2 : MI) (L2 : ML), Cx G code RL ret 14 552 → LX G b Ls xs rm1 c1 s1 → Inv I2 L2 rm1 → RS rm rm1 → c1 = c + mcA rm rm1 → s1 = s + msA rm rm1 → WW G 2377 [(0, .ref 4000000), (1, .ref 0), (2, .ref 43), (3, .int x3)] [] I2 L2 X) : WW G 410 [(0, .ref 4000000), (1, .ref 0), (2, .ref 43), (3, .int x3)] [] I L X := by
  obtain ⟨r, I1, L1, e1, I2, L2, e2, hI2⟩ := hp I L rm (xs (ix (x3 + 1))) hInv
  refine w_aload_n (q := 411) (i := 1) (j := 1) hc dL_law_410 rfl rfl rfl ?_
  refine w_aload_n (q := 412) (i := 0) (j := 0) hc dL_law_411 rfl rfl rfl ?_
  refine w_iload_n (q := 413) (i := 3) (j := 3) hc dL_law_412 rfl rfl rfl ?_
  refine w_iconst (q := 414) hc dL_law_413 ci_1 rfl ?_
  refine w_iadd (q := 415) hc dL_law_414 rfl ?_
  refine w_sld4 (q := 416) hc hX dL_law_415 h1 rfl ?_
  refine w_lawV (x := (r, I1, L1)) (q := 419) (st := []) (args := [.int (xs (ix (x3 + 1)))]) (p := 0) e1 hc (m_X7_many hX.1 hX.2.1) dL_law_416 ml_L_32 cf_X7_many iv_X7_many (k_0 hX.1) (C := RX7) (T := TX7) (N := 7) rfl rfl (by decide) rfl rfl (Nat.le_of_ble_eq_true rfl) ⟨Nat.le_of_ble_eq_true rfl, Nat.le_of_ble_eq_true rfl⟩ rfl ?_
  show WW G 419 [(0, .ref 4000000), (1, .ref 0), (2, .ref 43), (3, .int x3)] [.int r] I1 L1 X
  refine w_aload_n (q := 420) (i := 2) (j := 2) hc dL_law_419 rfl rfl rfl ?_
  refine w_aload_n (q := 421) (i := 0) (j := 0) hc dL_law_420 rfl rfl rfl ?_
  refine w_iload_n (q := 422) (i := 3) (j := 3) hc dL_law_421 rfl rfl rfl ?_
  refine w_iconst (q := 423) hc dL_law_422 ci_1 rfl ?_
  refine w_iadd (q := 424) hc dL_law_423 rfl ?_
  refine w_sld4 (q := 425) hc hX dL_law_424 h1 rfl ?_
  refine w_lawV (x := (r, I2, L2)) (q := 428) (st := [.int r]) (args := [.int (xs (ix (x3 + 1)))]) (p := 43) e2 hc (m_X8_many hX.1 hX.2.1) dL_law_425 ml_L_35 cf_X8_many iv_X8_many (k_43 hX.1) (C := RX8) (T := TX8) (N := 45) rfl rfl (by decide) rfl rfl (Nat.le_of_ble_eq_true rfl) ⟨Nat.le_of_ble_eq_true rfl, Nat.le_of_ble_eq_true rfl⟩ rfl ?_
  show WW G 428 [(0, .ref 4000000), (1, .ref 0), (2, .ref 43), (3, .int x3)] [.int r, .int r] I2 L2 X
  refine w_icmpeqT (tgt := 2377) hc dL_law_428 rfl ?_
  exact kk G rm c s I2 L2 hc hX hI2 (Or.inl rfl) (by rw [mcA_0]; rfl) (by rw [msA_0]; rfl)
/-- step -/
def PR_5 (Inv : MI → ML → Nat → Prop) : Prop := ∀ (I : MI) (L : ML) (rm : Nat) (a0 : Int32), Inv I L rm → ∃ (r : Int64) (I1 : MI) (L1 : ML), f_X7_step a0 I L = some (r, I1, L1) ∧ ∃ (I2 : MI) (L2 : ML), f_X8_step a0 I1 L1 = some (r, I2, L2) ∧ Inv I2 L2 rm
set_option maxRecDepth 100000 in
set_option maxHeartbeats 4000000 in
theorem lc_5 {G : GT Unit} {b Ls rm c s : Nat} {xs : Nat → Int32} {x3 : Int32} {I : MI} {L : ML} {X : Option Unit} {Inv : MI → ML → Nat → Prop} (hp : PR_5 Inv) (hc : Cx G code RL ret 14 552) (hX : LX G b Ls xs rm c s) (h1 : vp_in (x3 + 1) Ls) (h2 : vp_in (x3 + 2) Ls) (h3 : vp_in (x3 + 3) Ls) (h4 : vp_in (x3 + 4) Ls) (h5 : vp_in (x3 + 5) Ls) (hInv : Inv I L rm) (hrm : rm ≤ 5040) (hcb : c + 20 ≤ 600000) (hsb : s + 90748 ≤ 7302250)
    (kk : ∀ (G : GT Unit) (rm1 c1 s1 : Nat) (I2 : MI) (L2 : ML), Cx G code RL ret 14 552 → LX G b Ls xs rm1 c1 s1 → Inv I2 L2 rm1 → RS rm rm1 → c1 = c + mcA rm rm1 → s1 = s + msA rm rm1 → WW G 2377 [(0, .ref 4000000), (1, .ref 0), (2, .ref 43), (3, .int x3)] [] I2 L2 X) : WW G 433 [(0, .ref 4000000), (1, .ref 0), (2, .ref 43), (3, .int x3)] [] I L X := by
  obtain ⟨r, I1, L1, e1, I2, L2, e2, hI2⟩ := hp I L rm (xs (ix (x3 + 1))) hInv
  refine w_aload_n (q := 434) (i := 1) (j := 1) hc dL_law_433 rfl rfl rfl ?_
  refine w_aload_n (q := 435) (i := 0) (j := 0) hc dL_law_434 rfl rfl rfl ?_
  refine w_iload_n (q := 436) (i := 3) (j := 3) hc dL_law_435 rfl rfl rfl ?_
  refine w_iconst (q := 437) hc dL_law_436 ci_1 rfl ?_
  refine w_iadd (q := 438) hc dL_law_437 rfl ?_
  refine w_sld4 (q := 439) hc hX dL_law_438 h1 rfl ?_
  refine w_lawV (x := (r, I1, L1)) (q := 442) (st := []) (args := [.int (xs (ix (x3 + 1)))]) (p := 0) e1 hc (m_X7_step hX.1 hX.2.1) dL_law_439 ml_L_36 cf_X7_step iv_X7_step (k_0 hX.1) (C := RX7) (T := TX7) (N := 7) rfl rfl (by decide) rfl rfl (Nat.le_of_ble_eq_true rfl) ⟨Nat.le_of_ble_eq_true rfl, Nat.le_of_ble_eq_true rfl⟩ rfl ?_
  show WW G 442 [(0, .ref 4000000), (1, .ref 0), (2, .ref 43), (3, .int x3)] [.long r] I1 L1 X
  refine w_aload_n (q := 443) (i := 2) (j := 2) hc dL_law_442 rfl rfl rfl ?_
  refine w_aload_n (q := 444) (i := 0) (j := 0) hc dL_law_443 rfl rfl rfl ?_
  refine w_iload_n (q := 445) (i := 3) (j := 3) hc dL_law_444 rfl rfl rfl ?_
  refine w_iconst (q := 446) hc dL_law_445 ci_1 rfl ?_
  refine w_iadd (q := 447) hc dL_law_446 rfl ?_
  refine w_sld4 (q := 448) hc hX dL_law_447 h1 rfl ?_
  refine w_lawV (x := (r, I2, L2)) (q := 451) (st := [.long r]) (args := [.int (xs (ix (x3 + 1)))]) (p := 43) e2 hc (m_X8_step hX.1 hX.2.1) dL_law_448 ml_L_40 cf_X8_step iv_X8_step (k_43 hX.1) (C := RX8) (T := TX8) (N := 45) rfl rfl (by decide) rfl rfl (Nat.le_of_ble_eq_true rfl) ⟨Nat.le_of_ble_eq_true rfl, Nat.le_of_ble_eq_true rfl⟩ rfl ?_
  show WW G 451 [(0, .ref 4000000), (1, .ref 0), (2, .ref 43), (3, .int x3)] [.long r, .long r] I2 L2 X
  refine w_lcmp (q := 452) hc dL_law_451 rfl ?_
  rw [lg_self]
  refine w_ifeqT (tgt := 2377) hc dL_law_452 rfl rfl ?_
  exact kk G rm c s I2 L2 hc hX hI2 (Or.inl rfl) (by rw [mcA_0]; rfl) (by rw [msA_0]; rfl)
/-- stand -/
def PR_6 (Inv : MI → ML → Nat → Prop) : Prop := ∀ (I : MI) (L : ML) (rm : Nat), Inv I L rm → ∃ (r : Int64) (I1 : MI) (L1 : ML), f_X7_stand I L = some (r, I1, L1) ∧ ∃ (I2 : MI) (L2 : ML), f_X8_stand I1 L1 = some (r, I2, L2) ∧ Inv I2 L2 rm
set_option maxRecDepth 100000 in
set_option maxHeartbeats 4000000 in
theorem lc_6 {G : GT Unit} {b Ls rm c s : Nat} {xs : Nat → Int32} {x3 : Int32} {I : MI} {L : ML} {X : Option Unit} {Inv : MI → ML → Nat → Prop} (hp : PR_6 Inv) (hc : Cx G code RL ret 14 552) (hX : LX G b Ls xs rm c s) (h1 : vp_in (x3 + 1) Ls) (h2 : vp_in (x3 + 2) Ls) (h3 : vp_in (x3 + 3) Ls) (h4 : vp_in (x3 + 4) Ls) (h5 : vp_in (x3 + 5) Ls) (hInv : Inv I L rm) (hrm : rm ≤ 5040) (hcb : c + 20 ≤ 600000) (hsb : s + 90748 ≤ 7302250)
    (kk : ∀ (G : GT Unit) (rm1 c1 s1 : Nat) (I2 : MI) (L2 : ML), Cx G code RL ret 14 552 → LX G b Ls xs rm1 c1 s1 → Inv I2 L2 rm1 → RS rm rm1 → c1 = c + mcA rm rm1 → s1 = s + msA rm rm1 → WW G 2377 [(0, .ref 4000000), (1, .ref 0), (2, .ref 43), (3, .int x3)] [] I2 L2 X) : WW G 457 [(0, .ref 4000000), (1, .ref 0), (2, .ref 43), (3, .int x3)] [] I L X := by
  obtain ⟨r, I1, L1, e1, I2, L2, e2, hI2⟩ := hp I L rm hInv
  refine w_aload_n (q := 458) (i := 1) (j := 1) hc dL_law_457 rfl rfl rfl ?_
  refine w_lawV (x := (r, I1, L1)) (q := 461) (st := []) (args := []) (p := 0) e1 hc (m_X7_stand hX.1 hX.2.1) dL_law_458 ml_L_41 cf_X7_stand iv_X7_stand (k_0 hX.1) (C := RX7) (T := TX7) (N := 7) rfl rfl (by decide) rfl rfl (Nat.le_of_ble_eq_true rfl) ⟨Nat.le_of_ble_eq_true rfl, Nat.le_of_ble_eq_true rfl⟩ rfl ?_
  show WW G 461 [(0, .ref 4000000), (1, .ref 0), (2, .ref 43), (3, .int x3)] [.long r] I1 L1 X
  refine w_aload_n (q := 462) (i := 2) (j := 2) hc dL_law_461 rfl rfl rfl ?_
  refine w_lawV (x := (r, I2, L2)) (q := 465) (st := [.long r]) (args := []) (p := 43) e2 hc (m_X8_stand hX.1 hX.2.1) dL_law_462 ml_L_45 cf_X8_stand iv_X8_stand (k_43 hX.1) (C := RX8) (T := TX8) (N := 45) rfl rfl (by decide) rfl rfl (Nat.le_of_ble_eq_true rfl) ⟨Nat.le_of_ble_eq_true rfl, Nat.le_of_ble_eq_true rfl⟩ rfl ?_
  show WW G 465 [(0, .ref 4000000), (1, .ref 0), (2, .ref 43), (3, .int x3)] [.long r, .long r] I2 L2 X
  refine w_lcmp (q := 466) hc dL_law_465 rfl ?_
  rw [lg_self]
  refine w_ifeqT (tgt := 2377) hc dL_law_466 rfl rfl ?_
  exact kk G rm c s I2 L2 hc hX hI2 (Or.inl rfl) (by rw [mcA_0]; rfl) (by rw [msA_0]; rfl)
/-- takes -/
def PR_7 (Inv : MI → ML → Nat → Prop) : Prop := ∀ (I : MI) (L : ML) (rm : Nat) (a0 : Int64) (a1 : Int32), Inv I L rm → ∃ (r : Int32) (I1 : MI) (L1 : ML), f_X7_takes a0 a1 I L = some (r, I1, L1) ∧ ∃ (I2 : MI) (L2 : ML), f_X8_takes a0 a1 I1 L1 = some (r, I2, L2) ∧ Inv I2 L2 rm
set_option maxRecDepth 100000 in
set_option maxHeartbeats 4000000 in
theorem lc_7 {G : GT Unit} {b Ls rm c s : Nat} {xs : Nat → Int32} {x3 : Int32} {I : MI} {L : ML} {X : Option Unit} {Inv : MI → ML → Nat → Prop} (hp : PR_7 Inv) (hc : Cx G code RL ret 14 552) (hX : LX G b Ls xs rm c s) (h1 : vp_in (x3 + 1) Ls) (h2 : vp_in (x3 + 2) Ls) (h3 : vp_in (x3 + 3) Ls) (h4 : vp_in (x3 + 4) Ls) (h5 : vp_in (x3 + 5) Ls) (hInv : Inv I L rm) (hrm : rm ≤ 5040) (hcb : c + 20 ≤ 600000) (hsb : s + 90748 ≤ 7302250)
    (kk : ∀ (G : GT Unit) (rm1 c1 s1 : Nat) (I2 : MI) (L2 : ML), Cx G code RL ret 14 552 → LX G b Ls xs rm1 c1 s1 → Inv I2 L2 rm1 → RS rm rm1 → c1 = c + mcA rm rm1 → s1 = s + msA rm rm1 → WW G 2377 [(0, .ref 4000000), (1, .ref 0), (2, .ref 43), (3, .int x3)] [] I2 L2 X) : WW G 471 [(0, .ref 4000000), (1, .ref 0), (2, .ref 43), (3, .int x3)] [] I L X := by
  obtain ⟨r, I1, L1, e1, I2, L2, e2, hI2⟩ := hp I L rm ((lshl (Int32.toInt64 (xs (ix (x3 + 1)))) 32) ||| ((Int32.toInt64 (xs (ix (x3 + 2)))) &&& 4294967295)) (xs (ix (x3 + 3))) hInv
  refine w_aload_n (q := 472) (i := 1) (j := 1) hc dL_law_471 rfl rfl rfl ?_
  refine w_aload_n (q := 473) (i := 0) (j := 0) hc dL_law_472 rfl rfl rfl ?_
  refine w_iload_n (q := 474) (i := 3) (j := 3) hc dL_law_473 rfl rfl rfl ?_
  refine w_iconst (q := 475) hc dL_law_474 ci_1 rfl ?_
  refine w_iadd (q := 476) hc dL_law_475 rfl ?_
  refine w_sld4 (q := 477) hc hX dL_law_476 h1 rfl ?_
  refine w_i2l (q := 478) hc dL_law_477 rfl ?_
  refine w_bipush (q := 480) hc dL_law_478 cb_32 rfl ?_
  refine w_lshl (q := 481) hc dL_law_480 rfl ?_
  refine w_aload_n (q := 482) (i := 0) (j := 0) hc dL_law_481 rfl rfl rfl ?_
  refine w_iload_n (q := 483) (i := 3) (j := 3) hc dL_law_482 rfl rfl rfl ?_
  refine w_iconst (q := 484) hc dL_law_483 ci_2 rfl ?_
  refine w_iadd (q := 485) hc dL_law_484 rfl ?_
  refine w_sld4 (q := 486) hc hX dL_law_485 h2 rfl ?_
  refine w_i2l (q := 487) hc dL_law_486 rfl ?_
  refine w_ldc2 (q := 490) hc dL_law_487 kl_L_46 rfl ?_
  refine w_land (q := 491) hc dL_law_490 rfl ?_
  refine w_lor (q := 492) hc dL_law_491 rfl ?_
  refine w_aload_n (q := 493) (i := 0) (j := 0) hc dL_law_492 rfl rfl rfl ?_
  refine w_iload_n (q := 494) (i := 3) (j := 3) hc dL_law_493 rfl rfl rfl ?_
  refine w_iconst (q := 495) hc dL_law_494 ci_3 rfl ?_
  refine w_iadd (q := 496) hc dL_law_495 rfl ?_
  refine w_sld4 (q := 497) hc hX dL_law_496 h3 rfl ?_
  refine w_lawV (x := (r, I1, L1)) (q := 500) (st := []) (args := [.long ((lshl (Int32.toInt64 (xs (ix (x3 + 1)))) 32) ||| ((Int32.toInt64 (xs (ix (x3 + 2)))) &&& 4294967295)), .int (xs (ix (x3 + 3)))]) (p := 0) e1 hc (m_X7_takes hX.1 hX.2.1) dL_law_497 ml_L_48 cf_X7_takes iv_X7_takes (k_0 hX.1) (C := RX7) (T := TX7) (N := 7) rfl rfl (by decide) rfl rfl (Nat.le_of_ble_eq_true rfl) ⟨Nat.le_of_ble_eq_true rfl, Nat.le_of_ble_eq_true rfl⟩ rfl ?_
  show WW G 500 [(0, .ref 4000000), (1, .ref 0), (2, .ref 43), (3, .int x3)] [.int r] I1 L1 X
  refine w_aload_n (q := 501) (i := 2) (j := 2) hc dL_law_500 rfl rfl rfl ?_
  refine w_aload_n (q := 502) (i := 0) (j := 0) hc dL_law_501 rfl rfl rfl ?_
  refine w_iload_n (q := 503) (i := 3) (j := 3) hc dL_law_502 rfl rfl rfl ?_
  refine w_iconst (q := 504) hc dL_law_503 ci_1 rfl ?_
  refine w_iadd (q := 505) hc dL_law_504 rfl ?_
  refine w_sld4 (q := 506) hc hX dL_law_505 h1 rfl ?_
  refine w_i2l (q := 507) hc dL_law_506 rfl ?_
  refine w_bipush (q := 509) hc dL_law_507 cb_32 rfl ?_
  refine w_lshl (q := 510) hc dL_law_509 rfl ?_
  refine w_aload_n (q := 511) (i := 0) (j := 0) hc dL_law_510 rfl rfl rfl ?_
  refine w_iload_n (q := 512) (i := 3) (j := 3) hc dL_law_511 rfl rfl rfl ?_
  refine w_iconst (q := 513) hc dL_law_512 ci_2 rfl ?_
  refine w_iadd (q := 514) hc dL_law_513 rfl ?_
  refine w_sld4 (q := 515) hc hX dL_law_514 h2 rfl ?_
  refine w_i2l (q := 516) hc dL_law_515 rfl ?_
  refine w_ldc2 (q := 519) hc dL_law_516 kl_L_46 rfl ?_
  refine w_land (q := 520) hc dL_law_519 rfl ?_
  refine w_lor (q := 521) hc dL_law_520 rfl ?_
  refine w_aload_n (q := 522) (i := 0) (j := 0) hc dL_law_521 rfl rfl rfl ?_
  refine w_iload_n (q := 523) (i := 3) (j := 3) hc dL_law_522 rfl rfl rfl ?_
  refine w_iconst (q := 524) hc dL_law_523 ci_3 rfl ?_
  refine w_iadd (q := 525) hc dL_law_524 rfl ?_
  refine w_sld4 (q := 526) hc hX dL_law_525 h3 rfl ?_
  refine w_lawV (x := (r, I2, L2)) (q := 529) (st := [.int r]) (args := [.long ((lshl (Int32.toInt64 (xs (ix (x3 + 1)))) 32) ||| ((Int32.toInt64 (xs (ix (x3 + 2)))) &&& 4294967295)), .int (xs (ix (x3 + 3)))]) (p := 43) e2 hc (m_X8_takes hX.1 hX.2.1) dL_law_526 ml_L_52 cf_X8_takes iv_X8_takes (k_43 hX.1) (C := RX8) (T := TX8) (N := 45) rfl rfl (by decide) rfl rfl (Nat.le_of_ble_eq_true rfl) ⟨Nat.le_of_ble_eq_true rfl, Nat.le_of_ble_eq_true rfl⟩ rfl ?_
  show WW G 529 [(0, .ref 4000000), (1, .ref 0), (2, .ref 43), (3, .int x3)] [.int r, .int r] I2 L2 X
  refine w_icmpeqT (tgt := 2377) hc dL_law_529 rfl ?_
  exact kk G rm c s I2 L2 hc hX hI2 (Or.inl rfl) (by rw [mcA_0]; rfl) (by rw [msA_0]; rfl)
/-- product -/
def PR_8 (Inv : MI → ML → Nat → Prop) : Prop := ∀ (I : MI) (L : ML) (rm : Nat) (a0 : Int64) (a1 : Int64), Inv I L rm → ∃ (r : Int64) (I1 : MI) (L1 : ML), f_X7_product a0 a1 I L = some (r, I1, L1) ∧ ∃ (I2 : MI) (L2 : ML), f_X8_product a0 a1 I1 L1 = some (r, I2, L2) ∧ Inv I2 L2 rm
set_option maxRecDepth 100000 in
set_option maxHeartbeats 4000000 in
theorem lc_8 {G : GT Unit} {b Ls rm c s : Nat} {xs : Nat → Int32} {x3 : Int32} {I : MI} {L : ML} {X : Option Unit} {Inv : MI → ML → Nat → Prop} (hp : PR_8 Inv) (hc : Cx G code RL ret 14 552) (hX : LX G b Ls xs rm c s) (h1 : vp_in (x3 + 1) Ls) (h2 : vp_in (x3 + 2) Ls) (h3 : vp_in (x3 + 3) Ls) (h4 : vp_in (x3 + 4) Ls) (h5 : vp_in (x3 + 5) Ls) (hInv : Inv I L rm) (hrm : rm ≤ 5040) (hcb : c + 20 ≤ 600000) (hsb : s + 90748 ≤ 7302250)
    (kk : ∀ (G : GT Unit) (rm1 c1 s1 : Nat) (I2 : MI) (L2 : ML), Cx G code RL ret 14 552 → LX G b Ls xs rm1 c1 s1 → Inv I2 L2 rm1 → RS rm rm1 → c1 = c + mcA rm rm1 → s1 = s + msA rm rm1 → WW G 2377 [(0, .ref 4000000), (1, .ref 0), (2, .ref 43), (3, .int x3)] [] I2 L2 X) : WW G 534 [(0, .ref 4000000), (1, .ref 0), (2, .ref 43), (3, .int x3)] [] I L X := by
  obtain ⟨r, I1, L1, e1, I2, L2, e2, hI2⟩ := hp I L rm ((lshl (Int32.toInt64 (xs (ix (x3 + 1)))) 32) ||| ((Int32.toInt64 (xs (ix (x3 + 2)))) &&& 4294967295)) ((lshl (Int32.toInt64 (xs (ix (x3 + 3)))) 32) ||| ((Int32.toInt64 (xs (ix (x3 + 4)))) &&& 4294967295)) hInv
  refine w_aload_n (q := 535) (i := 1) (j := 1) hc dL_law_534 rfl rfl rfl ?_
  refine w_aload_n (q := 536) (i := 0) (j := 0) hc dL_law_535 rfl rfl rfl ?_
  refine w_iload_n (q := 537) (i := 3) (j := 3) hc dL_law_536 rfl rfl rfl ?_
  refine w_iconst (q := 538) hc dL_law_537 ci_1 rfl ?_
  refine w_iadd (q := 539) hc dL_law_538 rfl ?_
  refine w_sld4 (q := 540) hc hX dL_law_539 h1 rfl ?_
  refine w_i2l (q := 541) hc dL_law_540 rfl ?_
  refine w_bipush (q := 543) hc dL_law_541 cb_32 rfl ?_
  refine w_lshl (q := 544) hc dL_law_543 rfl ?_
  refine w_aload_n (q := 545) (i := 0) (j := 0) hc dL_law_544 rfl rfl rfl ?_
  refine w_iload_n (q := 546) (i := 3) (j := 3) hc dL_law_545 rfl rfl rfl ?_
  refine w_iconst (q := 547) hc dL_law_546 ci_2 rfl ?_
  refine w_iadd (q := 548) hc dL_law_547 rfl ?_
  refine w_sld4 (q := 549) hc hX dL_law_548 h2 rfl ?_
  refine w_i2l (q := 550) hc dL_law_549 rfl ?_
  refine w_ldc2 (q := 553) hc dL_law_550 kl_L_46 rfl ?_
  refine w_land (q := 554) hc dL_law_553 rfl ?_
  refine w_lor (q := 555) hc dL_law_554 rfl ?_
  refine w_aload_n (q := 556) (i := 0) (j := 0) hc dL_law_555 rfl rfl rfl ?_
  refine w_iload_n (q := 557) (i := 3) (j := 3) hc dL_law_556 rfl rfl rfl ?_
  refine w_iconst (q := 558) hc dL_law_557 ci_3 rfl ?_
  refine w_iadd (q := 559) hc dL_law_558 rfl ?_
  refine w_sld4 (q := 560) hc hX dL_law_559 h3 rfl ?_
  refine w_i2l (q := 561) hc dL_law_560 rfl ?_
  refine w_bipush (q := 563) hc dL_law_561 cb_32 rfl ?_
  refine w_lshl (q := 564) hc dL_law_563 rfl ?_
  refine w_aload_n (q := 565) (i := 0) (j := 0) hc dL_law_564 rfl rfl rfl ?_
  refine w_iload_n (q := 566) (i := 3) (j := 3) hc dL_law_565 rfl rfl rfl ?_
  refine w_iconst (q := 567) hc dL_law_566 ci_4 rfl ?_
  refine w_iadd (q := 568) hc dL_law_567 rfl ?_
  refine w_sld4 (q := 569) hc hX dL_law_568 h4 rfl ?_
  refine w_i2l (q := 570) hc dL_law_569 rfl ?_
  refine w_ldc2 (q := 573) hc dL_law_570 kl_L_46 rfl ?_
  refine w_land (q := 574) hc dL_law_573 rfl ?_
  refine w_lor (q := 575) hc dL_law_574 rfl ?_
  refine w_lawV (x := (r, I1, L1)) (q := 578) (st := []) (args := [.long ((lshl (Int32.toInt64 (xs (ix (x3 + 1)))) 32) ||| ((Int32.toInt64 (xs (ix (x3 + 2)))) &&& 4294967295)), .long ((lshl (Int32.toInt64 (xs (ix (x3 + 3)))) 32) ||| ((Int32.toInt64 (xs (ix (x3 + 4)))) &&& 4294967295))]) (p := 0) e1 hc (m_X7_product hX.1 hX.2.1) dL_law_575 ml_L_53 cf_X7_product iv_X7_product (k_0 hX.1) (C := RX7) (T := TX7) (N := 7) rfl rfl (by decide) rfl rfl (Nat.le_of_ble_eq_true rfl) ⟨Nat.le_of_ble_eq_true rfl, Nat.le_of_ble_eq_true rfl⟩ rfl ?_
  show WW G 578 [(0, .ref 4000000), (1, .ref 0), (2, .ref 43), (3, .int x3)] [.long r] I1 L1 X
  refine w_aload_n (q := 579) (i := 2) (j := 2) hc dL_law_578 rfl rfl rfl ?_
  refine w_aload_n (q := 580) (i := 0) (j := 0) hc dL_law_579 rfl rfl rfl ?_
  refine w_iload_n (q := 581) (i := 3) (j := 3) hc dL_law_580 rfl rfl rfl ?_
  refine w_iconst (q := 582) hc dL_law_581 ci_1 rfl ?_
  refine w_iadd (q := 583) hc dL_law_582 rfl ?_
  refine w_sld4 (q := 584) hc hX dL_law_583 h1 rfl ?_
  refine w_i2l (q := 585) hc dL_law_584 rfl ?_
  refine w_bipush (q := 587) hc dL_law_585 cb_32 rfl ?_
  refine w_lshl (q := 588) hc dL_law_587 rfl ?_
  refine w_aload_n (q := 589) (i := 0) (j := 0) hc dL_law_588 rfl rfl rfl ?_
  refine w_iload_n (q := 590) (i := 3) (j := 3) hc dL_law_589 rfl rfl rfl ?_
  refine w_iconst (q := 591) hc dL_law_590 ci_2 rfl ?_
  refine w_iadd (q := 592) hc dL_law_591 rfl ?_
  refine w_sld4 (q := 593) hc hX dL_law_592 h2 rfl ?_
  refine w_i2l (q := 594) hc dL_law_593 rfl ?_
  refine w_ldc2 (q := 597) hc dL_law_594 kl_L_46 rfl ?_
  refine w_land (q := 598) hc dL_law_597 rfl ?_
  refine w_lor (q := 599) hc dL_law_598 rfl ?_
  refine w_aload_n (q := 600) (i := 0) (j := 0) hc dL_law_599 rfl rfl rfl ?_
  refine w_iload_n (q := 601) (i := 3) (j := 3) hc dL_law_600 rfl rfl rfl ?_
  refine w_iconst (q := 602) hc dL_law_601 ci_3 rfl ?_
  refine w_iadd (q := 603) hc dL_law_602 rfl ?_
  refine w_sld4 (q := 604) hc hX dL_law_603 h3 rfl ?_
  refine w_i2l (q := 605) hc dL_law_604 rfl ?_
  refine w_bipush (q := 607) hc dL_law_605 cb_32 rfl ?_
  refine w_lshl (q := 608) hc dL_law_607 rfl ?_
  refine w_aload_n (q := 609) (i := 0) (j := 0) hc dL_law_608 rfl rfl rfl ?_
  refine w_iload_n (q := 610) (i := 3) (j := 3) hc dL_law_609 rfl rfl rfl ?_
  refine w_iconst (q := 611) hc dL_law_610 ci_4 rfl ?_
  refine w_iadd (q := 612) hc dL_law_611 rfl ?_
  refine w_sld4 (q := 613) hc hX dL_law_612 h4 rfl ?_
  refine w_i2l (q := 614) hc dL_law_613 rfl ?_
  refine w_ldc2 (q := 617) hc dL_law_614 kl_L_46 rfl ?_
  refine w_land (q := 618) hc dL_law_617 rfl ?_
  refine w_lor (q := 619) hc dL_law_618 rfl ?_
  refine w_lawV (x := (r, I2, L2)) (q := 622) (st := [.long r]) (args := [.long ((lshl (Int32.toInt64 (xs (ix (x3 + 1)))) 32) ||| ((Int32.toInt64 (xs (ix (x3 + 2)))) &&& 4294967295)), .long ((lshl (Int32.toInt64 (xs (ix (x3 + 3)))) 32) ||| ((Int32.toInt64 (xs (ix (x3 + 4)))) &&& 4294967295))]) (p := 43) e2 hc (m_X8_product hX.1 hX.2.1) dL_law_619 ml_L_57 cf_X8_product iv_X8_product (k_43 hX.1) (C := RX8) (T := TX8) (N := 45) rfl rfl (by decide) rfl rfl (Nat.le_of_ble_eq_true rfl) ⟨Nat.le_of_ble_eq_true rfl, Nat.le_of_ble_eq_true rfl⟩ rfl ?_
  show WW G 622 [(0, .ref 4000000), (1, .ref 0), (2, .ref 43), (3, .int x3)] [.long r, .long r] I2 L2 X
  refine w_lcmp (q := 623) hc dL_law_622 rfl ?_
  rw [lg_self]
  refine w_ifeqT (tgt := 2377) hc dL_law_623 rfl rfl ?_
  exact kk G rm c s I2 L2 hc hX hI2 (Or.inl rfl) (by rw [mcA_0]; rfl) (by rw [msA_0]; rfl)
/-- inverse -/
def PR_9 (Inv : MI → ML → Nat → Prop) : Prop := ∀ (I : MI) (L : ML) (rm : Nat) (a0 : Int64), Inv I L rm → ∃ (r : Int64) (I1 : MI) (L1 : ML), f_X7_inverse a0 I L = some (r, I1, L1) ∧ ∃ (I2 : MI) (L2 : ML), f_X8_inverse a0 I1 L1 = some (r, I2, L2) ∧ Inv I2 L2 rm
set_option maxRecDepth 100000 in
set_option maxHeartbeats 4000000 in
theorem lc_9 {G : GT Unit} {b Ls rm c s : Nat} {xs : Nat → Int32} {x3 : Int32} {I : MI} {L : ML} {X : Option Unit} {Inv : MI → ML → Nat → Prop} (hp : PR_9 Inv) (hc : Cx G code RL ret 14 552) (hX : LX G b Ls xs rm c s) (h1 : vp_in (x3 + 1) Ls) (h2 : vp_in (x3 + 2) Ls) (h3 : vp_in (x3 + 3) Ls) (h4 : vp_in (x3 + 4) Ls) (h5 : vp_in (x3 + 5) Ls) (hInv : Inv I L rm) (hrm : rm ≤ 5040) (hcb : c + 20 ≤ 600000) (hsb : s + 90748 ≤ 7302250)
    (kk : ∀ (G : GT Unit) (rm1 c1 s1 : Nat) (I2 : MI) (L2 : ML), Cx G code RL ret 14 552 → LX G b Ls xs rm1 c1 s1 → Inv I2 L2 rm1 → RS rm rm1 → c1 = c + mcA rm rm1 → s1 = s + msA rm rm1 → WW G 2377 [(0, .ref 4000000), (1, .ref 0), (2, .ref 43), (3, .int x3)] [] I2 L2 X) : WW G 628 [(0, .ref 4000000), (1, .ref 0), (2, .ref 43), (3, .int x3)] [] I L X := by
  obtain ⟨r, I1, L1, e1, I2, L2, e2, hI2⟩ := hp I L rm ((lshl (Int32.toInt64 (xs (ix (x3 + 1)))) 32) ||| ((Int32.toInt64 (xs (ix (x3 + 2)))) &&& 4294967295)) hInv
  refine w_aload_n (q := 629) (i := 1) (j := 1) hc dL_law_628 rfl rfl rfl ?_
  refine w_aload_n (q := 630) (i := 0) (j := 0) hc dL_law_629 rfl rfl rfl ?_
  refine w_iload_n (q := 631) (i := 3) (j := 3) hc dL_law_630 rfl rfl rfl ?_
  refine w_iconst (q := 632) hc dL_law_631 ci_1 rfl ?_
  refine w_iadd (q := 633) hc dL_law_632 rfl ?_
  refine w_sld4 (q := 634) hc hX dL_law_633 h1 rfl ?_
  refine w_i2l (q := 635) hc dL_law_634 rfl ?_
  refine w_bipush (q := 637) hc dL_law_635 cb_32 rfl ?_
  refine w_lshl (q := 638) hc dL_law_637 rfl ?_
  refine w_aload_n (q := 639) (i := 0) (j := 0) hc dL_law_638 rfl rfl rfl ?_
  refine w_iload_n (q := 640) (i := 3) (j := 3) hc dL_law_639 rfl rfl rfl ?_
  refine w_iconst (q := 641) hc dL_law_640 ci_2 rfl ?_
  refine w_iadd (q := 642) hc dL_law_641 rfl ?_
  refine w_sld4 (q := 643) hc hX dL_law_642 h2 rfl ?_
  refine w_i2l (q := 644) hc dL_law_643 rfl ?_
  refine w_ldc2 (q := 647) hc dL_law_644 kl_L_46 rfl ?_
  refine w_land (q := 648) hc dL_law_647 rfl ?_
  refine w_lor (q := 649) hc dL_law_648 rfl ?_
  refine w_lawV (x := (r, I1, L1)) (q := 652) (st := []) (args := [.long ((lshl (Int32.toInt64 (xs (ix (x3 + 1)))) 32) ||| ((Int32.toInt64 (xs (ix (x3 + 2)))) &&& 4294967295))]) (p := 0) e1 hc (m_X7_inverse hX.1 hX.2.1) dL_law_649 ml_L_58 cf_X7_inverse iv_X7_inverse (k_0 hX.1) (C := RX7) (T := TX7) (N := 7) rfl rfl (by decide) rfl rfl (Nat.le_of_ble_eq_true rfl) ⟨Nat.le_of_ble_eq_true rfl, Nat.le_of_ble_eq_true rfl⟩ rfl ?_
  show WW G 652 [(0, .ref 4000000), (1, .ref 0), (2, .ref 43), (3, .int x3)] [.long r] I1 L1 X
  refine w_aload_n (q := 653) (i := 2) (j := 2) hc dL_law_652 rfl rfl rfl ?_
  refine w_aload_n (q := 654) (i := 0) (j := 0) hc dL_law_653 rfl rfl rfl ?_
  refine w_iload_n (q := 655) (i := 3) (j := 3) hc dL_law_654 rfl rfl rfl ?_
  refine w_iconst (q := 656) hc dL_law_655 ci_1 rfl ?_
  refine w_iadd (q := 657) hc dL_law_656 rfl ?_
  refine w_sld4 (q := 658) hc hX dL_law_657 h1 rfl ?_
  refine w_i2l (q := 659) hc dL_law_658 rfl ?_
  refine w_bipush (q := 661) hc dL_law_659 cb_32 rfl ?_
  refine w_lshl (q := 662) hc dL_law_661 rfl ?_
  refine w_aload_n (q := 663) (i := 0) (j := 0) hc dL_law_662 rfl rfl rfl ?_
  refine w_iload_n (q := 664) (i := 3) (j := 3) hc dL_law_663 rfl rfl rfl ?_
  refine w_iconst (q := 665) hc dL_law_664 ci_2 rfl ?_
  refine w_iadd (q := 666) hc dL_law_665 rfl ?_
  refine w_sld4 (q := 667) hc hX dL_law_666 h2 rfl ?_
  refine w_i2l (q := 668) hc dL_law_667 rfl ?_
  refine w_ldc2 (q := 671) hc dL_law_668 kl_L_46 rfl ?_
  refine w_land (q := 672) hc dL_law_671 rfl ?_
  refine w_lor (q := 673) hc dL_law_672 rfl ?_
  refine w_lawV (x := (r, I2, L2)) (q := 676) (st := [.long r]) (args := [.long ((lshl (Int32.toInt64 (xs (ix (x3 + 1)))) 32) ||| ((Int32.toInt64 (xs (ix (x3 + 2)))) &&& 4294967295))]) (p := 43) e2 hc (m_X8_inverse hX.1 hX.2.1) dL_law_673 ml_L_62 cf_X8_inverse iv_X8_inverse (k_43 hX.1) (C := RX8) (T := TX8) (N := 45) rfl rfl (by decide) rfl rfl (Nat.le_of_ble_eq_true rfl) ⟨Nat.le_of_ble_eq_true rfl, Nat.le_of_ble_eq_true rfl⟩ rfl ?_
  show WW G 676 [(0, .ref 4000000), (1, .ref 0), (2, .ref 43), (3, .int x3)] [.long r, .long r] I2 L2 X
  refine w_lcmp (q := 677) hc dL_law_676 rfl ?_
  rw [lg_self]
  refine w_ifeqT (tgt := 2377) hc dL_law_677 rfl rfl ?_
  exact kk G rm c s I2 L2 hc hX hI2 (Or.inl rfl) (by rw [mcA_0]; rfl) (by rw [msA_0]; rfl)
/-- power -/
def PR_10 (Inv : MI → ML → Nat → Prop) : Prop := ∀ (I : MI) (L : ML) (rm : Nat) (a0 : Int64) (a1 : Int32), Inv I L rm → ∃ (r : Int64) (I1 : MI) (L1 : ML), f_X7_power a0 a1 I L = some (r, I1, L1) ∧ ∃ (I2 : MI) (L2 : ML), f_X8_power a0 a1 I1 L1 = some (r, I2, L2) ∧ Inv I2 L2 rm
set_option maxRecDepth 100000 in
set_option maxHeartbeats 4000000 in
theorem lc_10 {G : GT Unit} {b Ls rm c s : Nat} {xs : Nat → Int32} {x3 : Int32} {I : MI} {L : ML} {X : Option Unit} {Inv : MI → ML → Nat → Prop} (hp : PR_10 Inv) (hc : Cx G code RL ret 14 552) (hX : LX G b Ls xs rm c s) (h1 : vp_in (x3 + 1) Ls) (h2 : vp_in (x3 + 2) Ls) (h3 : vp_in (x3 + 3) Ls) (h4 : vp_in (x3 + 4) Ls) (h5 : vp_in (x3 + 5) Ls) (hInv : Inv I L rm) (hrm : rm ≤ 5040) (hcb : c + 20 ≤ 600000) (hsb : s + 90748 ≤ 7302250)
    (kk : ∀ (G : GT Unit) (rm1 c1 s1 : Nat) (I2 : MI) (L2 : ML), Cx G code RL ret 14 552 → LX G b Ls xs rm1 c1 s1 → Inv I2 L2 rm1 → RS rm rm1 → c1 = c + mcA rm rm1 → s1 = s + msA rm rm1 → WW G 2377 [(0, .ref 4000000), (1, .ref 0), (2, .ref 43), (3, .int x3)] [] I2 L2 X) : WW G 682 [(0, .ref 4000000), (1, .ref 0), (2, .ref 43), (3, .int x3)] [] I L X := by
  obtain ⟨r, I1, L1, e1, I2, L2, e2, hI2⟩ := hp I L rm ((lshl (Int32.toInt64 (xs (ix (x3 + 1)))) 32) ||| ((Int32.toInt64 (xs (ix (x3 + 2)))) &&& 4294967295)) (xs (ix (x3 + 3))) hInv
  refine w_aload_n (q := 683) (i := 1) (j := 1) hc dL_law_682 rfl rfl rfl ?_
  refine w_aload_n (q := 684) (i := 0) (j := 0) hc dL_law_683 rfl rfl rfl ?_
  refine w_iload_n (q := 685) (i := 3) (j := 3) hc dL_law_684 rfl rfl rfl ?_
  refine w_iconst (q := 686) hc dL_law_685 ci_1 rfl ?_
  refine w_iadd (q := 687) hc dL_law_686 rfl ?_
  refine w_sld4 (q := 688) hc hX dL_law_687 h1 rfl ?_
  refine w_i2l (q := 689) hc dL_law_688 rfl ?_
  refine w_bipush (q := 691) hc dL_law_689 cb_32 rfl ?_
  refine w_lshl (q := 692) hc dL_law_691 rfl ?_
  refine w_aload_n (q := 693) (i := 0) (j := 0) hc dL_law_692 rfl rfl rfl ?_
  refine w_iload_n (q := 694) (i := 3) (j := 3) hc dL_law_693 rfl rfl rfl ?_
  refine w_iconst (q := 695) hc dL_law_694 ci_2 rfl ?_
  refine w_iadd (q := 696) hc dL_law_695 rfl ?_
  refine w_sld4 (q := 697) hc hX dL_law_696 h2 rfl ?_
  refine w_i2l (q := 698) hc dL_law_697 rfl ?_
  refine w_ldc2 (q := 701) hc dL_law_698 kl_L_46 rfl ?_
  refine w_land (q := 702) hc dL_law_701 rfl ?_
  refine w_lor (q := 703) hc dL_law_702 rfl ?_
  refine w_aload_n (q := 704) (i := 0) (j := 0) hc dL_law_703 rfl rfl rfl ?_
  refine w_iload_n (q := 705) (i := 3) (j := 3) hc dL_law_704 rfl rfl rfl ?_
  refine w_iconst (q := 706) hc dL_law_705 ci_3 rfl ?_
  refine w_iadd (q := 707) hc dL_law_706 rfl ?_
  refine w_sld4 (q := 708) hc hX dL_law_707 h3 rfl ?_
  refine w_lawV (x := (r, I1, L1)) (q := 711) (st := []) (args := [.long ((lshl (Int32.toInt64 (xs (ix (x3 + 1)))) 32) ||| ((Int32.toInt64 (xs (ix (x3 + 2)))) &&& 4294967295)), .int (xs (ix (x3 + 3)))]) (p := 0) e1 hc (m_X7_power hX.1 hX.2.1) dL_law_708 ml_L_63 cf_X7_power iv_X7_power (k_0 hX.1) (C := RX7) (T := TX7) (N := 7) rfl rfl (by decide) rfl rfl (Nat.le_of_ble_eq_true rfl) ⟨Nat.le_of_ble_eq_true rfl, Nat.le_of_ble_eq_true rfl⟩ rfl ?_
  show WW G 711 [(0, .ref 4000000), (1, .ref 0), (2, .ref 43), (3, .int x3)] [.long r] I1 L1 X
  refine w_aload_n (q := 712) (i := 2) (j := 2) hc dL_law_711 rfl rfl rfl ?_
  refine w_aload_n (q := 713) (i := 0) (j := 0) hc dL_law_712 rfl rfl rfl ?_
  refine w_iload_n (q := 714) (i := 3) (j := 3) hc dL_law_713 rfl rfl rfl ?_
  refine w_iconst (q := 715) hc dL_law_714 ci_1 rfl ?_
  refine w_iadd (q := 716) hc dL_law_715 rfl ?_
  refine w_sld4 (q := 717) hc hX dL_law_716 h1 rfl ?_
  refine w_i2l (q := 718) hc dL_law_717 rfl ?_
  refine w_bipush (q := 720) hc dL_law_718 cb_32 rfl ?_
  refine w_lshl (q := 721) hc dL_law_720 rfl ?_
  refine w_aload_n (q := 722) (i := 0) (j := 0) hc dL_law_721 rfl rfl rfl ?_
  refine w_iload_n (q := 723) (i := 3) (j := 3) hc dL_law_722 rfl rfl rfl ?_
  refine w_iconst (q := 724) hc dL_law_723 ci_2 rfl ?_
  refine w_iadd (q := 725) hc dL_law_724 rfl ?_
  refine w_sld4 (q := 726) hc hX dL_law_725 h2 rfl ?_
  refine w_i2l (q := 727) hc dL_law_726 rfl ?_
  refine w_ldc2 (q := 730) hc dL_law_727 kl_L_46 rfl ?_
  refine w_land (q := 731) hc dL_law_730 rfl ?_
  refine w_lor (q := 732) hc dL_law_731 rfl ?_
  refine w_aload_n (q := 733) (i := 0) (j := 0) hc dL_law_732 rfl rfl rfl ?_
  refine w_iload_n (q := 734) (i := 3) (j := 3) hc dL_law_733 rfl rfl rfl ?_
  refine w_iconst (q := 735) hc dL_law_734 ci_3 rfl ?_
  refine w_iadd (q := 736) hc dL_law_735 rfl ?_
  refine w_sld4 (q := 737) hc hX dL_law_736 h3 rfl ?_
  refine w_lawV (x := (r, I2, L2)) (q := 740) (st := [.long r]) (args := [.long ((lshl (Int32.toInt64 (xs (ix (x3 + 1)))) 32) ||| ((Int32.toInt64 (xs (ix (x3 + 2)))) &&& 4294967295)), .int (xs (ix (x3 + 3)))]) (p := 43) e2 hc (m_X8_power hX.1 hX.2.1) dL_law_737 ml_L_67 cf_X8_power iv_X8_power (k_43 hX.1) (C := RX8) (T := TX8) (N := 45) rfl rfl (by decide) rfl rfl (Nat.le_of_ble_eq_true rfl) ⟨Nat.le_of_ble_eq_true rfl, Nat.le_of_ble_eq_true rfl⟩ rfl ?_
  show WW G 740 [(0, .ref 4000000), (1, .ref 0), (2, .ref 43), (3, .int x3)] [.long r, .long r] I2 L2 X
  refine w_lcmp (q := 741) hc dL_law_740 rfl ?_
  rw [lg_self]
  refine w_ifeqT (tgt := 2377) hc dL_law_741 rfl rfl ?_
  exact kk G rm c s I2 L2 hc hX hI2 (Or.inl rfl) (by rw [mcA_0]; rfl) (by rw [msA_0]; rfl)
/-- about -/
def PR_11 (Inv : MI → ML → Nat → Prop) : Prop := ∀ (I : MI) (L : ML) (rm : Nat) (a0 : Int64) (a1 : Int32), Inv I L rm → ∃ (r : Int32) (I1 : MI) (L1 : ML), f_X7_about a0 a1 I L = some (r, I1, L1) ∧ ∃ (I2 : MI) (L2 : ML), f_X8_about a0 a1 I1 L1 = some (r, I2, L2) ∧ Inv I2 L2 rm
set_option maxRecDepth 100000 in
set_option maxHeartbeats 4000000 in
theorem lc_11 {G : GT Unit} {b Ls rm c s : Nat} {xs : Nat → Int32} {x3 : Int32} {I : MI} {L : ML} {X : Option Unit} {Inv : MI → ML → Nat → Prop} (hp : PR_11 Inv) (hc : Cx G code RL ret 14 552) (hX : LX G b Ls xs rm c s) (h1 : vp_in (x3 + 1) Ls) (h2 : vp_in (x3 + 2) Ls) (h3 : vp_in (x3 + 3) Ls) (h4 : vp_in (x3 + 4) Ls) (h5 : vp_in (x3 + 5) Ls) (hInv : Inv I L rm) (hrm : rm ≤ 5040) (hcb : c + 20 ≤ 600000) (hsb : s + 90748 ≤ 7302250)
    (kk : ∀ (G : GT Unit) (rm1 c1 s1 : Nat) (I2 : MI) (L2 : ML), Cx G code RL ret 14 552 → LX G b Ls xs rm1 c1 s1 → Inv I2 L2 rm1 → RS rm rm1 → c1 = c + mcA rm rm1 → s1 = s + msA rm rm1 → WW G 2377 [(0, .ref 4000000), (1, .ref 0), (2, .ref 43), (3, .int x3)] [] I2 L2 X) : WW G 746 [(0, .ref 4000000), (1, .ref 0), (2, .ref 43), (3, .int x3)] [] I L X := by
  obtain ⟨r, I1, L1, e1, I2, L2, e2, hI2⟩ := hp I L rm ((lshl (Int32.toInt64 (xs (ix (x3 + 1)))) 32) ||| ((Int32.toInt64 (xs (ix (x3 + 2)))) &&& 4294967295)) (xs (ix (x3 + 3))) hInv
  refine w_aload_n (q := 747) (i := 1) (j := 1) hc dL_law_746 rfl rfl rfl ?_
  refine w_aload_n (q := 748) (i := 0) (j := 0) hc dL_law_747 rfl rfl rfl ?_
  refine w_iload_n (q := 749) (i := 3) (j := 3) hc dL_law_748 rfl rfl rfl ?_
  refine w_iconst (q := 750) hc dL_law_749 ci_1 rfl ?_
  refine w_iadd (q := 751) hc dL_law_750 rfl ?_
  refine w_sld4 (q := 752) hc hX dL_law_751 h1 rfl ?_
  refine w_i2l (q := 753) hc dL_law_752 rfl ?_
  refine w_bipush (q := 755) hc dL_law_753 cb_32 rfl ?_
  refine w_lshl (q := 756) hc dL_law_755 rfl ?_
  refine w_aload_n (q := 757) (i := 0) (j := 0) hc dL_law_756 rfl rfl rfl ?_
  refine w_iload_n (q := 758) (i := 3) (j := 3) hc dL_law_757 rfl rfl rfl ?_
  refine w_iconst (q := 759) hc dL_law_758 ci_2 rfl ?_
  refine w_iadd (q := 760) hc dL_law_759 rfl ?_
  refine w_sld4 (q := 761) hc hX dL_law_760 h2 rfl ?_
  refine w_i2l (q := 762) hc dL_law_761 rfl ?_
  refine w_ldc2 (q := 765) hc dL_law_762 kl_L_46 rfl ?_
  refine w_land (q := 766) hc dL_law_765 rfl ?_
  refine w_lor (q := 767) hc dL_law_766 rfl ?_
  refine w_aload_n (q := 768) (i := 0) (j := 0) hc dL_law_767 rfl rfl rfl ?_
  refine w_iload_n (q := 769) (i := 3) (j := 3) hc dL_law_768 rfl rfl rfl ?_
  refine w_iconst (q := 770) hc dL_law_769 ci_3 rfl ?_
  refine w_iadd (q := 771) hc dL_law_770 rfl ?_
  refine w_sld4 (q := 772) hc hX dL_law_771 h3 rfl ?_
  refine w_lawV (x := (r, I1, L1)) (q := 775) (st := []) (args := [.long ((lshl (Int32.toInt64 (xs (ix (x3 + 1)))) 32) ||| ((Int32.toInt64 (xs (ix (x3 + 2)))) &&& 4294967295)), .int (xs (ix (x3 + 3)))]) (p := 0) e1 hc (m_X7_about hX.1 hX.2.1) dL_law_772 ml_L_68 cf_X7_about iv_X7_about (k_0 hX.1) (C := RX7) (T := TX7) (N := 7) rfl rfl (by decide) rfl rfl (Nat.le_of_ble_eq_true rfl) ⟨Nat.le_of_ble_eq_true rfl, Nat.le_of_ble_eq_true rfl⟩ rfl ?_
  show WW G 775 [(0, .ref 4000000), (1, .ref 0), (2, .ref 43), (3, .int x3)] [.int r] I1 L1 X
  refine w_aload_n (q := 776) (i := 2) (j := 2) hc dL_law_775 rfl rfl rfl ?_
  refine w_aload_n (q := 777) (i := 0) (j := 0) hc dL_law_776 rfl rfl rfl ?_
  refine w_iload_n (q := 778) (i := 3) (j := 3) hc dL_law_777 rfl rfl rfl ?_
  refine w_iconst (q := 779) hc dL_law_778 ci_1 rfl ?_
  refine w_iadd (q := 780) hc dL_law_779 rfl ?_
  refine w_sld4 (q := 781) hc hX dL_law_780 h1 rfl ?_
  refine w_i2l (q := 782) hc dL_law_781 rfl ?_
  refine w_bipush (q := 784) hc dL_law_782 cb_32 rfl ?_
  refine w_lshl (q := 785) hc dL_law_784 rfl ?_
  refine w_aload_n (q := 786) (i := 0) (j := 0) hc dL_law_785 rfl rfl rfl ?_
  refine w_iload_n (q := 787) (i := 3) (j := 3) hc dL_law_786 rfl rfl rfl ?_
  refine w_iconst (q := 788) hc dL_law_787 ci_2 rfl ?_
  refine w_iadd (q := 789) hc dL_law_788 rfl ?_
  refine w_sld4 (q := 790) hc hX dL_law_789 h2 rfl ?_
  refine w_i2l (q := 791) hc dL_law_790 rfl ?_
  refine w_ldc2 (q := 794) hc dL_law_791 kl_L_46 rfl ?_
  refine w_land (q := 795) hc dL_law_794 rfl ?_
  refine w_lor (q := 796) hc dL_law_795 rfl ?_
  refine w_aload_n (q := 797) (i := 0) (j := 0) hc dL_law_796 rfl rfl rfl ?_
  refine w_iload_n (q := 798) (i := 3) (j := 3) hc dL_law_797 rfl rfl rfl ?_
  refine w_iconst (q := 799) hc dL_law_798 ci_3 rfl ?_
  refine w_iadd (q := 800) hc dL_law_799 rfl ?_
  refine w_sld4 (q := 801) hc hX dL_law_800 h3 rfl ?_
  refine w_lawV (x := (r, I2, L2)) (q := 804) (st := [.int r]) (args := [.long ((lshl (Int32.toInt64 (xs (ix (x3 + 1)))) 32) ||| ((Int32.toInt64 (xs (ix (x3 + 2)))) &&& 4294967295)), .int (xs (ix (x3 + 3)))]) (p := 43) e2 hc (m_X8_about hX.1 hX.2.1) dL_law_801 ml_L_71 cf_X8_about iv_X8_about (k_43 hX.1) (C := RX8) (T := TX8) (N := 45) rfl rfl (by decide) rfl rfl (Nat.le_of_ble_eq_true rfl) ⟨Nat.le_of_ble_eq_true rfl, Nat.le_of_ble_eq_true rfl⟩ rfl ?_
  show WW G 804 [(0, .ref 4000000), (1, .ref 0), (2, .ref 43), (3, .int x3)] [.int r, .int r] I2 L2 X
  refine w_icmpeqT (tgt := 2377) hc dL_law_804 rfl ?_
  exact kk G rm c s I2 L2 hc hX hI2 (Or.inl rfl) (by rw [mcA_0]; rfl) (by rw [msA_0]; rfl)
/-- orbit -/
def PR_12 (Inv : MI → ML → Nat → Prop) : Prop := ∀ (I : MI) (L : ML) (rm : Nat) (a0 : Int32), Inv I L rm → ∃ (r : Int32) (I1 : MI) (L1 : ML), f_X7_orbit a0 I L = some (r, I1, L1) ∧ ∃ (I2 : MI) (L2 : ML), f_X8_orbit a0 I1 L1 = some (r, I2, L2) ∧ Inv I2 L2 rm
set_option maxRecDepth 100000 in
set_option maxHeartbeats 4000000 in
theorem lc_12 {G : GT Unit} {b Ls rm c s : Nat} {xs : Nat → Int32} {x3 : Int32} {I : MI} {L : ML} {X : Option Unit} {Inv : MI → ML → Nat → Prop} (hp : PR_12 Inv) (hc : Cx G code RL ret 14 552) (hX : LX G b Ls xs rm c s) (h1 : vp_in (x3 + 1) Ls) (h2 : vp_in (x3 + 2) Ls) (h3 : vp_in (x3 + 3) Ls) (h4 : vp_in (x3 + 4) Ls) (h5 : vp_in (x3 + 5) Ls) (hInv : Inv I L rm) (hrm : rm ≤ 5040) (hcb : c + 20 ≤ 600000) (hsb : s + 90748 ≤ 7302250)
    (kk : ∀ (G : GT Unit) (rm1 c1 s1 : Nat) (I2 : MI) (L2 : ML), Cx G code RL ret 14 552 → LX G b Ls xs rm1 c1 s1 → Inv I2 L2 rm1 → RS rm rm1 → c1 = c + mcA rm rm1 → s1 = s + msA rm rm1 → WW G 2377 [(0, .ref 4000000), (1, .ref 0), (2, .ref 43), (3, .int x3)] [] I2 L2 X) : WW G 809 [(0, .ref 4000000), (1, .ref 0), (2, .ref 43), (3, .int x3)] [] I L X := by
  obtain ⟨r, I1, L1, e1, I2, L2, e2, hI2⟩ := hp I L rm (xs (ix (x3 + 1))) hInv
  refine w_aload_n (q := 810) (i := 1) (j := 1) hc dL_law_809 rfl rfl rfl ?_
  refine w_aload_n (q := 811) (i := 0) (j := 0) hc dL_law_810 rfl rfl rfl ?_
  refine w_iload_n (q := 812) (i := 3) (j := 3) hc dL_law_811 rfl rfl rfl ?_
  refine w_iconst (q := 813) hc dL_law_812 ci_1 rfl ?_
  refine w_iadd (q := 814) hc dL_law_813 rfl ?_
  refine w_sld4 (q := 815) hc hX dL_law_814 h1 rfl ?_
  refine w_lawV (x := (r, I1, L1)) (q := 818) (st := []) (args := [.int (xs (ix (x3 + 1)))]) (p := 0) e1 hc (m_X7_orbit hX.1 hX.2.1) dL_law_815 ml_L_72 cf_X7_orbit iv_X7_orbit (k_0 hX.1) (C := RX7) (T := TX7) (N := 7) rfl rfl (by decide) rfl rfl (Nat.le_of_ble_eq_true rfl) ⟨Nat.le_of_ble_eq_true rfl, Nat.le_of_ble_eq_true rfl⟩ rfl ?_
  show WW G 818 [(0, .ref 4000000), (1, .ref 0), (2, .ref 43), (3, .int x3)] [.int r] I1 L1 X
  refine w_aload_n (q := 819) (i := 2) (j := 2) hc dL_law_818 rfl rfl rfl ?_
  refine w_aload_n (q := 820) (i := 0) (j := 0) hc dL_law_819 rfl rfl rfl ?_
  refine w_iload_n (q := 821) (i := 3) (j := 3) hc dL_law_820 rfl rfl rfl ?_
  refine w_iconst (q := 822) hc dL_law_821 ci_1 rfl ?_
  refine w_iadd (q := 823) hc dL_law_822 rfl ?_
  refine w_sld4 (q := 824) hc hX dL_law_823 h1 rfl ?_
  refine w_lawV (x := (r, I2, L2)) (q := 827) (st := [.int r]) (args := [.int (xs (ix (x3 + 1)))]) (p := 43) e2 hc (m_X8_orbit hX.1 hX.2.1) dL_law_824 ml_L_75 cf_X8_orbit iv_X8_orbit (k_43 hX.1) (C := RX8) (T := TX8) (N := 45) rfl rfl (by decide) rfl rfl (Nat.le_of_ble_eq_true rfl) ⟨Nat.le_of_ble_eq_true rfl, Nat.le_of_ble_eq_true rfl⟩ rfl ?_
  show WW G 827 [(0, .ref 4000000), (1, .ref 0), (2, .ref 43), (3, .int x3)] [.int r, .int r] I2 L2 X
  refine w_icmpeqT (tgt := 2377) hc dL_law_827 rfl ?_
  exact kk G rm c s I2 L2 hc hX hI2 (Or.inl rfl) (by rw [mcA_0]; rfl) (by rw [msA_0]; rfl)
/-- orbits -/
def PR_13 (Inv : MI → ML → Nat → Prop) : Prop := ∀ (I : MI) (L : ML) (rm : Nat), Inv I L rm → ∃ (r : Int32) (I1 : MI) (L1 : ML), f_X7_orbits I L = some (r, I1, L1) ∧ ∃ (I2 : MI) (L2 : ML), f_X8_orbits I1 L1 = some (r, I2, L2) ∧ Inv I2 L2 rm
set_option maxRecDepth 100000 in
set_option maxHeartbeats 4000000 in
theorem lc_13 {G : GT Unit} {b Ls rm c s : Nat} {xs : Nat → Int32} {x3 : Int32} {I : MI} {L : ML} {X : Option Unit} {Inv : MI → ML → Nat → Prop} (hp : PR_13 Inv) (hc : Cx G code RL ret 14 552) (hX : LX G b Ls xs rm c s) (h1 : vp_in (x3 + 1) Ls) (h2 : vp_in (x3 + 2) Ls) (h3 : vp_in (x3 + 3) Ls) (h4 : vp_in (x3 + 4) Ls) (h5 : vp_in (x3 + 5) Ls) (hInv : Inv I L rm) (hrm : rm ≤ 5040) (hcb : c + 20 ≤ 600000) (hsb : s + 90748 ≤ 7302250)
    (kk : ∀ (G : GT Unit) (rm1 c1 s1 : Nat) (I2 : MI) (L2 : ML), Cx G code RL ret 14 552 → LX G b Ls xs rm1 c1 s1 → Inv I2 L2 rm1 → RS rm rm1 → c1 = c + mcA rm rm1 → s1 = s + msA rm rm1 → WW G 2377 [(0, .ref 4000000), (1, .ref 0), (2, .ref 43), (3, .int x3)] [] I2 L2 X) : WW G 832 [(0, .ref 4000000), (1, .ref 0), (2, .ref 43), (3, .int x3)] [] I L X := by
  obtain ⟨r, I1, L1, e1, I2, L2, e2, hI2⟩ := hp I L rm hInv
  refine w_aload_n (q := 833) (i := 1) (j := 1) hc dL_law_832 rfl rfl rfl ?_
  refine w_lawV (x := (r, I1, L1)) (q := 836) (st := []) (args := []) (p := 0) e1 hc (m_X7_orbits hX.1 hX.2.1) dL_law_833 ml_L_76 cf_X7_orbits iv_X7_orbits (k_0 hX.1) (C := RX7) (T := TX7) (N := 7) rfl rfl (by decide) rfl rfl (Nat.le_of_ble_eq_true rfl) ⟨Nat.le_of_ble_eq_true rfl, Nat.le_of_ble_eq_true rfl⟩ rfl ?_
  show WW G 836 [(0, .ref 4000000), (1, .ref 0), (2, .ref 43), (3, .int x3)] [.int r] I1 L1 X
  refine w_aload_n (q := 837) (i := 2) (j := 2) hc dL_law_836 rfl rfl rfl ?_
  refine w_lawV (x := (r, I2, L2)) (q := 840) (st := [.int r]) (args := []) (p := 43) e2 hc (m_X8_orbits hX.1 hX.2.1) dL_law_837 ml_L_79 cf_X8_orbits iv_X8_orbits (k_43 hX.1) (C := RX8) (T := TX8) (N := 45) rfl rfl (by decide) rfl rfl (Nat.le_of_ble_eq_true rfl) ⟨Nat.le_of_ble_eq_true rfl, Nat.le_of_ble_eq_true rfl⟩ rfl ?_
  show WW G 840 [(0, .ref 4000000), (1, .ref 0), (2, .ref 43), (3, .int x3)] [.int r, .int r] I2 L2 X
  refine w_icmpeqT (tgt := 2377) hc dL_law_840 rfl ?_
  exact kk G rm c s I2 L2 hc hX hI2 (Or.inl rfl) (by rw [mcA_0]; rfl) (by rw [msA_0]; rfl)
/-- base -/
def PR_14 (Inv : MI → ML → Nat → Prop) : Prop := ∀ (I : MI) (L : ML) (rm : Nat) (a0 : Int32), Inv I L rm → ∃ (r : Int32) (I1 : MI) (L1 : ML), f_X7_base a0 I L = some (r, I1, L1) ∧ ∃ (I2 : MI) (L2 : ML), f_X8_base a0 I1 L1 = some (r, I2, L2) ∧ Inv I2 L2 rm
set_option maxRecDepth 100000 in
set_option maxHeartbeats 4000000 in
theorem lc_14 {G : GT Unit} {b Ls rm c s : Nat} {xs : Nat → Int32} {x3 : Int32} {I : MI} {L : ML} {X : Option Unit} {Inv : MI → ML → Nat → Prop} (hp : PR_14 Inv) (hc : Cx G code RL ret 14 552) (hX : LX G b Ls xs rm c s) (h1 : vp_in (x3 + 1) Ls) (h2 : vp_in (x3 + 2) Ls) (h3 : vp_in (x3 + 3) Ls) (h4 : vp_in (x3 + 4) Ls) (h5 : vp_in (x3 + 5) Ls) (hInv : Inv I L rm) (hrm : rm ≤ 5040) (hcb : c + 20 ≤ 600000) (hsb : s + 90748 ≤ 7302250)
    (kk : ∀ (G : GT Unit) (rm1 c1 s1 : Nat) (I2 : MI) (L2 : ML), Cx G code RL ret 14 552 → LX G b Ls xs rm1 c1 s1 → Inv I2 L2 rm1 → RS rm rm1 → c1 = c + mcA rm rm1 → s1 = s + msA rm rm1 → WW G 2377 [(0, .ref 4000000), (1, .ref 0), (2, .ref 43), (3, .int x3)] [] I2 L2 X) : WW G 845 [(0, .ref 4000000), (1, .ref 0), (2, .ref 43), (3, .int x3)] [] I L X := by
  obtain ⟨r, I1, L1, e1, I2, L2, e2, hI2⟩ := hp I L rm (xs (ix (x3 + 1))) hInv
  refine w_aload_n (q := 846) (i := 1) (j := 1) hc dL_law_845 rfl rfl rfl ?_
  refine w_aload_n (q := 847) (i := 0) (j := 0) hc dL_law_846 rfl rfl rfl ?_
  refine w_iload_n (q := 848) (i := 3) (j := 3) hc dL_law_847 rfl rfl rfl ?_
  refine w_iconst (q := 849) hc dL_law_848 ci_1 rfl ?_
  refine w_iadd (q := 850) hc dL_law_849 rfl ?_
  refine w_sld4 (q := 851) hc hX dL_law_850 h1 rfl ?_
  refine w_lawV (x := (r, I1, L1)) (q := 854) (st := []) (args := [.int (xs (ix (x3 + 1)))]) (p := 0) e1 hc (m_X7_base hX.1 hX.2.1) dL_law_851 ml_L_80 cf_X7_base iv_X7_base (k_0 hX.1) (C := RX7) (T := TX7) (N := 7) rfl rfl (by decide) rfl rfl (Nat.le_of_ble_eq_true rfl) ⟨Nat.le_of_ble_eq_true rfl, Nat.le_of_ble_eq_true rfl⟩ rfl ?_
  show WW G 854 [(0, .ref 4000000), (1, .ref 0), (2, .ref 43), (3, .int x3)] [.int r] I1 L1 X
  refine w_aload_n (q := 855) (i := 2) (j := 2) hc dL_law_854 rfl rfl rfl ?_
  refine w_aload_n (q := 856) (i := 0) (j := 0) hc dL_law_855 rfl rfl rfl ?_
  refine w_iload_n (q := 857) (i := 3) (j := 3) hc dL_law_856 rfl rfl rfl ?_
  refine w_iconst (q := 858) hc dL_law_857 ci_1 rfl ?_
  refine w_iadd (q := 859) hc dL_law_858 rfl ?_
  refine w_sld4 (q := 860) hc hX dL_law_859 h1 rfl ?_
  refine w_lawV (x := (r, I2, L2)) (q := 863) (st := [.int r]) (args := [.int (xs (ix (x3 + 1)))]) (p := 43) e2 hc (m_X8_base hX.1 hX.2.1) dL_law_860 ml_L_83 cf_X8_base iv_X8_base (k_43 hX.1) (C := RX8) (T := TX8) (N := 45) rfl rfl (by decide) rfl rfl (Nat.le_of_ble_eq_true rfl) ⟨Nat.le_of_ble_eq_true rfl, Nat.le_of_ble_eq_true rfl⟩ rfl ?_
  show WW G 863 [(0, .ref 4000000), (1, .ref 0), (2, .ref 43), (3, .int x3)] [.int r, .int r] I2 L2 X
  refine w_icmpeqT (tgt := 2377) hc dL_law_863 rfl ?_
  exact kk G rm c s I2 L2 hc hX hI2 (Or.inl rfl) (by rw [mcA_0]; rfl) (by rw [msA_0]; rfl)
/-- level -/
def PR_15 (Inv : MI → ML → Nat → Prop) : Prop := ∀ (I : MI) (L : ML) (rm : Nat) (a0 : Int32), Inv I L rm → ∃ (r : Int32) (I1 : MI) (L1 : ML), f_X7_level a0 I L = some (r, I1, L1) ∧ ∃ (I2 : MI) (L2 : ML), f_X8_level a0 I1 L1 = some (r, I2, L2) ∧ Inv I2 L2 rm
set_option maxRecDepth 100000 in
set_option maxHeartbeats 4000000 in
theorem lc_15 {G : GT Unit} {b Ls rm c s : Nat} {xs : Nat → Int32} {x3 : Int32} {I : MI} {L : ML} {X : Option Unit} {Inv : MI → ML → Nat → Prop} (hp : PR_15 Inv) (hc : Cx G code RL ret 14 552) (hX : LX G b Ls xs rm c s) (h1 : vp_in (x3 + 1) Ls) (h2 : vp_in (x3 + 2) Ls) (h3 : vp_in (x3 + 3) Ls) (h4 : vp_in (x3 + 4) Ls) (h5 : vp_in (x3 + 5) Ls) (hInv : Inv I L rm) (hrm : rm ≤ 5040) (hcb : c + 20 ≤ 600000) (hsb : s + 90748 ≤ 7302250)
    (kk : ∀ (G : GT Unit) (rm1 c1 s1 : Nat) (I2 : MI) (L2 : ML), Cx G code RL ret 14 552 → LX G b Ls xs rm1 c1 s1 → Inv I2 L2 rm1 → RS rm rm1 → c1 = c + mcA rm rm1 → s1 = s + msA rm rm1 → WW G 2377 [(0, .ref 4000000), (1, .ref 0), (2, .ref 43), (3, .int x3)] [] I2 L2 X) : WW G 868 [(0, .ref 4000000), (1, .ref 0), (2, .ref 43), (3, .int x3)] [] I L X := by
  obtain ⟨r, I1, L1, e1, I2, L2, e2, hI2⟩ := hp I L rm (xs (ix (x3 + 1))) hInv
  refine w_aload_n (q := 869) (i := 1) (j := 1) hc dL_law_868 rfl rfl rfl ?_
  refine w_aload_n (q := 870) (i := 0) (j := 0) hc dL_law_869 rfl rfl rfl ?_
  refine w_iload_n (q := 871) (i := 3) (j := 3) hc dL_law_870 rfl rfl rfl ?_
  refine w_iconst (q := 872) hc dL_law_871 ci_1 rfl ?_
  refine w_iadd (q := 873) hc dL_law_872 rfl ?_
  refine w_sld4 (q := 874) hc hX dL_law_873 h1 rfl ?_
  refine w_lawV (x := (r, I1, L1)) (q := 877) (st := []) (args := [.int (xs (ix (x3 + 1)))]) (p := 0) e1 hc (m_X7_level hX.1 hX.2.1) dL_law_874 ml_L_84 cf_X7_level iv_X7_level (k_0 hX.1) (C := RX7) (T := TX7) (N := 7) rfl rfl (by decide) rfl rfl (Nat.le_of_ble_eq_true rfl) ⟨Nat.le_of_ble_eq_true rfl, Nat.le_of_ble_eq_true rfl⟩ rfl ?_
  show WW G 877 [(0, .ref 4000000), (1, .ref 0), (2, .ref 43), (3, .int x3)] [.int r] I1 L1 X
  refine w_aload_n (q := 878) (i := 2) (j := 2) hc dL_law_877 rfl rfl rfl ?_
  refine w_aload_n (q := 879) (i := 0) (j := 0) hc dL_law_878 rfl rfl rfl ?_
  refine w_iload_n (q := 880) (i := 3) (j := 3) hc dL_law_879 rfl rfl rfl ?_
  refine w_iconst (q := 881) hc dL_law_880 ci_1 rfl ?_
  refine w_iadd (q := 882) hc dL_law_881 rfl ?_
  refine w_sld4 (q := 883) hc hX dL_law_882 h1 rfl ?_
  refine w_lawV (x := (r, I2, L2)) (q := 886) (st := [.int r]) (args := [.int (xs (ix (x3 + 1)))]) (p := 43) e2 hc (m_X8_level hX.1 hX.2.1) dL_law_883 ml_L_87 cf_X8_level iv_X8_level (k_43 hX.1) (C := RX8) (T := TX8) (N := 45) rfl rfl (by decide) rfl rfl (Nat.le_of_ble_eq_true rfl) ⟨Nat.le_of_ble_eq_true rfl, Nat.le_of_ble_eq_true rfl⟩ rfl ?_
  show WW G 886 [(0, .ref 4000000), (1, .ref 0), (2, .ref 43), (3, .int x3)] [.int r, .int r] I2 L2 X
  refine w_icmpeqT (tgt := 2377) hc dL_law_886 rfl ?_
  exact kk G rm c s I2 L2 hc hX hI2 (Or.inl rfl) (by rw [mcA_0]; rfl) (by rw [msA_0]; rfl)
/-- order -/
def PR_16 (Inv : MI → ML → Nat → Prop) : Prop := ∀ (I : MI) (L : ML) (rm : Nat), Inv I L rm → ∃ (r : Int32) (I1 : MI) (L1 : ML), f_X7_order I L = some (r, I1, L1) ∧ ∃ (I2 : MI) (L2 : ML), f_X8_order I1 L1 = some (r, I2, L2) ∧ Inv I2 L2 rm
set_option maxRecDepth 100000 in
set_option maxHeartbeats 4000000 in
theorem lc_16 {G : GT Unit} {b Ls rm c s : Nat} {xs : Nat → Int32} {x3 : Int32} {I : MI} {L : ML} {X : Option Unit} {Inv : MI → ML → Nat → Prop} (hp : PR_16 Inv) (hc : Cx G code RL ret 14 552) (hX : LX G b Ls xs rm c s) (h1 : vp_in (x3 + 1) Ls) (h2 : vp_in (x3 + 2) Ls) (h3 : vp_in (x3 + 3) Ls) (h4 : vp_in (x3 + 4) Ls) (h5 : vp_in (x3 + 5) Ls) (hInv : Inv I L rm) (hrm : rm ≤ 5040) (hcb : c + 20 ≤ 600000) (hsb : s + 90748 ≤ 7302250)
    (kk : ∀ (G : GT Unit) (rm1 c1 s1 : Nat) (I2 : MI) (L2 : ML), Cx G code RL ret 14 552 → LX G b Ls xs rm1 c1 s1 → Inv I2 L2 rm1 → RS rm rm1 → c1 = c + mcA rm rm1 → s1 = s + msA rm rm1 → WW G 2377 [(0, .ref 4000000), (1, .ref 0), (2, .ref 43), (3, .int x3)] [] I2 L2 X) : WW G 891 [(0, .ref 4000000), (1, .ref 0), (2, .ref 43), (3, .int x3)] [] I L X := by
  obtain ⟨r, I1, L1, e1, I2, L2, e2, hI2⟩ := hp I L rm hInv
  refine w_aload_n (q := 892) (i := 1) (j := 1) hc dL_law_891 rfl rfl rfl ?_
  refine w_lawV (x := (r, I1, L1)) (q := 895) (st := []) (args := []) (p := 0) e1 hc (m_X7_order hX.1 hX.2.1) dL_law_892 ml_L_88 cf_X7_order iv_X7_order (k_0 hX.1) (C := RX7) (T := TX7) (N := 7) rfl rfl (by decide) rfl rfl (Nat.le_of_ble_eq_true rfl) ⟨Nat.le_of_ble_eq_true rfl, Nat.le_of_ble_eq_true rfl⟩ rfl ?_
  show WW G 895 [(0, .ref 4000000), (1, .ref 0), (2, .ref 43), (3, .int x3)] [.int r] I1 L1 X
  refine w_aload_n (q := 896) (i := 2) (j := 2) hc dL_law_895 rfl rfl rfl ?_
  refine w_lawV (x := (r, I2, L2)) (q := 899) (st := [.int r]) (args := []) (p := 43) e2 hc (m_X8_order hX.1 hX.2.1) dL_law_896 ml_L_91 cf_X8_order iv_X8_order (k_43 hX.1) (C := RX8) (T := TX8) (N := 45) rfl rfl (by decide) rfl rfl (Nat.le_of_ble_eq_true rfl) ⟨Nat.le_of_ble_eq_true rfl, Nat.le_of_ble_eq_true rfl⟩ rfl ?_
  show WW G 899 [(0, .ref 4000000), (1, .ref 0), (2, .ref 43), (3, .int x3)] [.int r, .int r] I2 L2 X
  refine w_icmpeqT (tgt := 2377) hc dL_law_899 rfl ?_
  exact kk G rm c s I2 L2 hc hX hI2 (Or.inl rfl) (by rw [mcA_0]; rfl) (by rw [msA_0]; rfl)
/-- member -/
def PR_17 (Inv : MI → ML → Nat → Prop) : Prop := ∀ (I : MI) (L : ML) (rm : Nat) (a0 : Int64), Inv I L rm → ∃ (r : Int32) (I1 : MI) (L1 : ML), f_X7_member a0 I L = some (r, I1, L1) ∧ ∃ (I2 : MI) (L2 : ML), f_X8_member a0 I1 L1 = some (r, I2, L2) ∧ Inv I2 L2 rm
set_option maxRecDepth 100000 in
set_option maxHeartbeats 4000000 in
theorem lc_17 {G : GT Unit} {b Ls rm c s : Nat} {xs : Nat → Int32} {x3 : Int32} {I : MI} {L : ML} {X : Option Unit} {Inv : MI → ML → Nat → Prop} (hp : PR_17 Inv) (hc : Cx G code RL ret 14 552) (hX : LX G b Ls xs rm c s) (h1 : vp_in (x3 + 1) Ls) (h2 : vp_in (x3 + 2) Ls) (h3 : vp_in (x3 + 3) Ls) (h4 : vp_in (x3 + 4) Ls) (h5 : vp_in (x3 + 5) Ls) (hInv : Inv I L rm) (hrm : rm ≤ 5040) (hcb : c + 20 ≤ 600000) (hsb : s + 90748 ≤ 7302250)
    (kk : ∀ (G : GT Unit) (rm1 c1 s1 : Nat) (I2 : MI) (L2 : ML), Cx G code RL ret 14 552 → LX G b Ls xs rm1 c1 s1 → Inv I2 L2 rm1 → RS rm rm1 → c1 = c + mcA rm rm1 → s1 = s + msA rm rm1 → WW G 2377 [(0, .ref 4000000), (1, .ref 0), (2, .ref 43), (3, .int x3)] [] I2 L2 X) : WW G 904 [(0, .ref 4000000), (1, .ref 0), (2, .ref 43), (3, .int x3)] [] I L X := by
  obtain ⟨r, I1, L1, e1, I2, L2, e2, hI2⟩ := hp I L rm ((lshl (Int32.toInt64 (xs (ix (x3 + 1)))) 32) ||| ((Int32.toInt64 (xs (ix (x3 + 2)))) &&& 4294967295)) hInv
  refine w_aload_n (q := 905) (i := 1) (j := 1) hc dL_law_904 rfl rfl rfl ?_
  refine w_aload_n (q := 906) (i := 0) (j := 0) hc dL_law_905 rfl rfl rfl ?_
  refine w_iload_n (q := 907) (i := 3) (j := 3) hc dL_law_906 rfl rfl rfl ?_
  refine w_iconst (q := 908) hc dL_law_907 ci_1 rfl ?_
  refine w_iadd (q := 909) hc dL_law_908 rfl ?_
  refine w_sld4 (q := 910) hc hX dL_law_909 h1 rfl ?_
  refine w_i2l (q := 911) hc dL_law_910 rfl ?_
  refine w_bipush (q := 913) hc dL_law_911 cb_32 rfl ?_
  refine w_lshl (q := 914) hc dL_law_913 rfl ?_
  refine w_aload_n (q := 915) (i := 0) (j := 0) hc dL_law_914 rfl rfl rfl ?_
  refine w_iload_n (q := 916) (i := 3) (j := 3) hc dL_law_915 rfl rfl rfl ?_
  refine w_iconst (q := 917) hc dL_law_916 ci_2 rfl ?_
  refine w_iadd (q := 918) hc dL_law_917 rfl ?_
  refine w_sld4 (q := 919) hc hX dL_law_918 h2 rfl ?_
  refine w_i2l (q := 920) hc dL_law_919 rfl ?_
  refine w_ldc2 (q := 923) hc dL_law_920 kl_L_46 rfl ?_
  refine w_land (q := 924) hc dL_law_923 rfl ?_
  refine w_lor (q := 925) hc dL_law_924 rfl ?_
  refine w_lawV (x := (r, I1, L1)) (q := 928) (st := []) (args := [.long ((lshl (Int32.toInt64 (xs (ix (x3 + 1)))) 32) ||| ((Int32.toInt64 (xs (ix (x3 + 2)))) &&& 4294967295))]) (p := 0) e1 hc (m_X7_member hX.1 hX.2.1) dL_law_925 ml_L_92 cf_X7_member iv_X7_member (k_0 hX.1) (C := RX7) (T := TX7) (N := 7) rfl rfl (by decide) rfl rfl (Nat.le_of_ble_eq_true rfl) ⟨Nat.le_of_ble_eq_true rfl, Nat.le_of_ble_eq_true rfl⟩ rfl ?_
  show WW G 928 [(0, .ref 4000000), (1, .ref 0), (2, .ref 43), (3, .int x3)] [.int r] I1 L1 X
  refine w_aload_n (q := 929) (i := 2) (j := 2) hc dL_law_928 rfl rfl rfl ?_
  refine w_aload_n (q := 930) (i := 0) (j := 0) hc dL_law_929 rfl rfl rfl ?_
  refine w_iload_n (q := 931) (i := 3) (j := 3) hc dL_law_930 rfl rfl rfl ?_
  refine w_iconst (q := 932) hc dL_law_931 ci_1 rfl ?_
  refine w_iadd (q := 933) hc dL_law_932 rfl ?_
  refine w_sld4 (q := 934) hc hX dL_law_933 h1 rfl ?_
  refine w_i2l (q := 935) hc dL_law_934 rfl ?_
  refine w_bipush (q := 937) hc dL_law_935 cb_32 rfl ?_
  refine w_lshl (q := 938) hc dL_law_937 rfl ?_
  refine w_aload_n (q := 939) (i := 0) (j := 0) hc dL_law_938 rfl rfl rfl ?_
  refine w_iload_n (q := 940) (i := 3) (j := 3) hc dL_law_939 rfl rfl rfl ?_
  refine w_iconst (q := 941) hc dL_law_940 ci_2 rfl ?_
  refine w_iadd (q := 942) hc dL_law_941 rfl ?_
  refine w_sld4 (q := 943) hc hX dL_law_942 h2 rfl ?_
  refine w_i2l (q := 944) hc dL_law_943 rfl ?_
  refine w_ldc2 (q := 947) hc dL_law_944 kl_L_46 rfl ?_
  refine w_land (q := 948) hc dL_law_947 rfl ?_
  refine w_lor (q := 949) hc dL_law_948 rfl ?_
  refine w_lawV (x := (r, I2, L2)) (q := 952) (st := [.int r]) (args := [.long ((lshl (Int32.toInt64 (xs (ix (x3 + 1)))) 32) ||| ((Int32.toInt64 (xs (ix (x3 + 2)))) &&& 4294967295))]) (p := 43) e2 hc (m_X8_member hX.1 hX.2.1) dL_law_949 ml_L_96 cf_X8_member iv_X8_member (k_43 hX.1) (C := RX8) (T := TX8) (N := 45) rfl rfl (by decide) rfl rfl (Nat.le_of_ble_eq_true rfl) ⟨Nat.le_of_ble_eq_true rfl, Nat.le_of_ble_eq_true rfl⟩ rfl ?_
  show WW G 952 [(0, .ref 4000000), (1, .ref 0), (2, .ref 43), (3, .int x3)] [.int r, .int r] I2 L2 X
  refine w_icmpeqT (tgt := 2377) hc dL_law_952 rfl ?_
  exact kk G rm c s I2 L2 hc hX hI2 (Or.inl rfl) (by rw [mcA_0]; rfl) (by rw [msA_0]; rfl)
/-- followed -/
def PR_18 (Inv : MI → ML → Nat → Prop) : Prop := ∀ (I : MI) (L : ML) (rm : Nat) (a0 : Int64), Inv I L rm → ∃ (r : Int32) (I1 : MI) (L1 : ML), f_X7_followed a0 I L = some (r, I1, L1) ∧ ∃ (I2 : MI) (L2 : ML), f_X8_followed a0 I1 L1 = some (r, I2, L2) ∧ Inv I2 L2 rm
set_option maxRecDepth 100000 in
set_option maxHeartbeats 4000000 in
theorem lc_18 {G : GT Unit} {b Ls rm c s : Nat} {xs : Nat → Int32} {x3 : Int32} {I : MI} {L : ML} {X : Option Unit} {Inv : MI → ML → Nat → Prop} (hp : PR_18 Inv) (hc : Cx G code RL ret 14 552) (hX : LX G b Ls xs rm c s) (h1 : vp_in (x3 + 1) Ls) (h2 : vp_in (x3 + 2) Ls) (h3 : vp_in (x3 + 3) Ls) (h4 : vp_in (x3 + 4) Ls) (h5 : vp_in (x3 + 5) Ls) (hInv : Inv I L rm) (hrm : rm ≤ 5040) (hcb : c + 20 ≤ 600000) (hsb : s + 90748 ≤ 7302250)
    (kk : ∀ (G : GT Unit) (rm1 c1 s1 : Nat) (I2 : MI) (L2 : ML), Cx G code RL ret 14 552 → LX G b Ls xs rm1 c1 s1 → Inv I2 L2 rm1 → RS rm rm1 → c1 = c + mcA rm rm1 → s1 = s + msA rm rm1 → WW G 2377 [(0, .ref 4000000), (1, .ref 0), (2, .ref 43), (3, .int x3)] [] I2 L2 X) : WW G 957 [(0, .ref 4000000), (1, .ref 0), (2, .ref 43), (3, .int x3)] [] I L X := by
  obtain ⟨r, I1, L1, e1, I2, L2, e2, hI2⟩ := hp I L rm ((lshl (Int32.toInt64 (xs (ix (x3 + 1)))) 32) ||| ((Int32.toInt64 (xs (ix (x3 + 2)))) &&& 4294967295)) hInv
  refine w_aload_n (q := 958) (i := 1) (j := 1) hc dL_law_957 rfl rfl rfl ?_
  refine w_aload_n (q := 959) (i := 0) (j := 0) hc dL_law_958 rfl rfl rfl ?_
  refine w_iload_n (q := 960) (i := 3) (j := 3) hc dL_law_959 rfl rfl rfl ?_
  refine w_iconst (q := 961) hc dL_law_960 ci_1 rfl ?_
  refine w_iadd (q := 962) hc dL_law_961 rfl ?_
  refine w_sld4 (q := 963) hc hX dL_law_962 h1 rfl ?_
  refine w_i2l (q := 964) hc dL_law_963 rfl ?_
  refine w_bipush (q := 966) hc dL_law_964 cb_32 rfl ?_
  refine w_lshl (q := 967) hc dL_law_966 rfl ?_
  refine w_aload_n (q := 968) (i := 0) (j := 0) hc dL_law_967 rfl rfl rfl ?_
  refine w_iload_n (q := 969) (i := 3) (j := 3) hc dL_law_968 rfl rfl rfl ?_
  refine w_iconst (q := 970) hc dL_law_969 ci_2 rfl ?_
  refine w_iadd (q := 971) hc dL_law_970 rfl ?_
  refine w_sld4 (q := 972) hc hX dL_law_971 h2 rfl ?_
  refine w_i2l (q := 973) hc dL_law_972 rfl ?_
  refine w_ldc2 (q := 976) hc dL_law_973 kl_L_46 rfl ?_
  refine w_land (q := 977) hc dL_law_976 rfl ?_
  refine w_lor (q := 978) hc dL_law_977 rfl ?_
  refine w_lawV (x := (r, I1, L1)) (q := 981) (st := []) (args := [.long ((lshl (Int32.toInt64 (xs (ix (x3 + 1)))) 32) ||| ((Int32.toInt64 (xs (ix (x3 + 2)))) &&& 4294967295))]) (p := 0) e1 hc (m_X7_followed hX.1 hX.2.1) dL_law_978 ml_L_97 cf_X7_followed iv_X7_followed (k_0 hX.1) (C := RX7) (T := TX7) (N := 7) rfl rfl (by decide) rfl rfl (Nat.le_of_ble_eq_true rfl) ⟨Nat.le_of_ble_eq_true rfl, Nat.le_of_ble_eq_true rfl⟩ rfl ?_
  show WW G 981 [(0, .ref 4000000), (1, .ref 0), (2, .ref 43), (3, .int x3)] [.int r] I1 L1 X
  refine w_aload_n (q := 982) (i := 2) (j := 2) hc dL_law_981 rfl rfl rfl ?_
  refine w_aload_n (q := 983) (i := 0) (j := 0) hc dL_law_982 rfl rfl rfl ?_
  refine w_iload_n (q := 984) (i := 3) (j := 3) hc dL_law_983 rfl rfl rfl ?_
  refine w_iconst (q := 985) hc dL_law_984 ci_1 rfl ?_
  refine w_iadd (q := 986) hc dL_law_985 rfl ?_
  refine w_sld4 (q := 987) hc hX dL_law_986 h1 rfl ?_
  refine w_i2l (q := 988) hc dL_law_987 rfl ?_
  refine w_bipush (q := 990) hc dL_law_988 cb_32 rfl ?_
  refine w_lshl (q := 991) hc dL_law_990 rfl ?_
  refine w_aload_n (q := 992) (i := 0) (j := 0) hc dL_law_991 rfl rfl rfl ?_
  refine w_iload_n (q := 993) (i := 3) (j := 3) hc dL_law_992 rfl rfl rfl ?_
  refine w_iconst (q := 994) hc dL_law_993 ci_2 rfl ?_
  refine w_iadd (q := 995) hc dL_law_994 rfl ?_
  refine w_sld4 (q := 996) hc hX dL_law_995 h2 rfl ?_
  refine w_i2l (q := 997) hc dL_law_996 rfl ?_
  refine w_ldc2 (q := 1000) hc dL_law_997 kl_L_46 rfl ?_
  refine w_land (q := 1001) hc dL_law_1000 rfl ?_
  refine w_lor (q := 1002) hc dL_law_1001 rfl ?_
  refine w_lawV (x := (r, I2, L2)) (q := 1005) (st := [.int r]) (args := [.long ((lshl (Int32.toInt64 (xs (ix (x3 + 1)))) 32) ||| ((Int32.toInt64 (xs (ix (x3 + 2)))) &&& 4294967295))]) (p := 43) e2 hc (m_X8_followed hX.1 hX.2.1) dL_law_1002 ml_L_100 cf_X8_followed iv_X8_followed (k_43 hX.1) (C := RX8) (T := TX8) (N := 45) rfl rfl (by decide) rfl rfl (Nat.le_of_ble_eq_true rfl) ⟨Nat.le_of_ble_eq_true rfl, Nat.le_of_ble_eq_true rfl⟩ rfl ?_
  show WW G 1005 [(0, .ref 4000000), (1, .ref 0), (2, .ref 43), (3, .int x3)] [.int r, .int r] I2 L2 X
  refine w_icmpeqT (tgt := 2377) hc dL_law_1005 rfl ?_
  exact kk G rm c s I2 L2 hc hX hI2 (Or.inl rfl) (by rw [mcA_0]; rfl) (by rw [msA_0]; rfl)
/-- nth -/
def PR_19 (Inv : MI → ML → Nat → Prop) : Prop := ∀ (I : MI) (L : ML) (rm : Nat) (a0 : Int32), Inv I L rm → ∃ (r : Int64) (I1 : MI) (L1 : ML), f_X7_nth a0 I L = some (r, I1, L1) ∧ ∃ (I2 : MI) (L2 : ML), f_X8_nth a0 I1 L1 = some (r, I2, L2) ∧ Inv I2 L2 rm
set_option maxRecDepth 100000 in
set_option maxHeartbeats 4000000 in
theorem lc_19 {G : GT Unit} {b Ls rm c s : Nat} {xs : Nat → Int32} {x3 : Int32} {I : MI} {L : ML} {X : Option Unit} {Inv : MI → ML → Nat → Prop} (hp : PR_19 Inv) (hc : Cx G code RL ret 14 552) (hX : LX G b Ls xs rm c s) (h1 : vp_in (x3 + 1) Ls) (h2 : vp_in (x3 + 2) Ls) (h3 : vp_in (x3 + 3) Ls) (h4 : vp_in (x3 + 4) Ls) (h5 : vp_in (x3 + 5) Ls) (hInv : Inv I L rm) (hrm : rm ≤ 5040) (hcb : c + 20 ≤ 600000) (hsb : s + 90748 ≤ 7302250)
    (kk : ∀ (G : GT Unit) (rm1 c1 s1 : Nat) (I2 : MI) (L2 : ML), Cx G code RL ret 14 552 → LX G b Ls xs rm1 c1 s1 → Inv I2 L2 rm1 → RS rm rm1 → c1 = c + mcA rm rm1 → s1 = s + msA rm rm1 → WW G 2377 [(0, .ref 4000000), (1, .ref 0), (2, .ref 43), (3, .int x3)] [] I2 L2 X) : WW G 1010 [(0, .ref 4000000), (1, .ref 0), (2, .ref 43), (3, .int x3)] [] I L X := by
  obtain ⟨r, I1, L1, e1, I2, L2, e2, hI2⟩ := hp I L rm (xs (ix (x3 + 1))) hInv
  refine w_aload_n (q := 1011) (i := 1) (j := 1) hc dL_law_1010 rfl rfl rfl ?_
  refine w_aload_n (q := 1012) (i := 0) (j := 0) hc dL_law_1011 rfl rfl rfl ?_
  refine w_iload_n (q := 1013) (i := 3) (j := 3) hc dL_law_1012 rfl rfl rfl ?_
  refine w_iconst (q := 1014) hc dL_law_1013 ci_1 rfl ?_
  refine w_iadd (q := 1015) hc dL_law_1014 rfl ?_
  refine w_sld4 (q := 1016) hc hX dL_law_1015 h1 rfl ?_
  refine w_lawV (x := (r, I1, L1)) (q := 1019) (st := []) (args := [.int (xs (ix (x3 + 1)))]) (p := 0) e1 hc (m_X7_nth hX.1 hX.2.1) dL_law_1016 ml_L_101 cf_X7_nth iv_X7_nth (k_0 hX.1) (C := RX7) (T := TX7) (N := 7) rfl rfl (by decide) rfl rfl (Nat.le_of_ble_eq_true rfl) ⟨Nat.le_of_ble_eq_true rfl, Nat.le_of_ble_eq_true rfl⟩ rfl ?_
  show WW G 1019 [(0, .ref 4000000), (1, .ref 0), (2, .ref 43), (3, .int x3)] [.long r] I1 L1 X
  refine w_aload_n (q := 1020) (i := 2) (j := 2) hc dL_law_1019 rfl rfl rfl ?_
  refine w_aload_n (q := 1021) (i := 0) (j := 0) hc dL_law_1020 rfl rfl rfl ?_
  refine w_iload_n (q := 1022) (i := 3) (j := 3) hc dL_law_1021 rfl rfl rfl ?_
  refine w_iconst (q := 1023) hc dL_law_1022 ci_1 rfl ?_
  refine w_iadd (q := 1024) hc dL_law_1023 rfl ?_
  refine w_sld4 (q := 1025) hc hX dL_law_1024 h1 rfl ?_
  refine w_lawV (x := (r, I2, L2)) (q := 1028) (st := [.long r]) (args := [.int (xs (ix (x3 + 1)))]) (p := 43) e2 hc (m_X8_nth hX.1 hX.2.1) dL_law_1025 ml_L_104 cf_X8_nth iv_X8_nth (k_43 hX.1) (C := RX8) (T := TX8) (N := 45) rfl rfl (by decide) rfl rfl (Nat.le_of_ble_eq_true rfl) ⟨Nat.le_of_ble_eq_true rfl, Nat.le_of_ble_eq_true rfl⟩ rfl ?_
  show WW G 1028 [(0, .ref 4000000), (1, .ref 0), (2, .ref 43), (3, .int x3)] [.long r, .long r] I2 L2 X
  refine w_lcmp (q := 1029) hc dL_law_1028 rfl ?_
  rw [lg_self]
  refine w_ifeqT (tgt := 2377) hc dL_law_1029 rfl rfl ?_
  exact kk G rm c s I2 L2 hc hX hI2 (Or.inl rfl) (by rw [mcA_0]; rfl) (by rw [msA_0]; rfl)
/-- rank -/
def PR_20 (Inv : MI → ML → Nat → Prop) : Prop := ∀ (I : MI) (L : ML) (rm : Nat) (a0 : Int64), Inv I L rm → ∃ (r : Int32) (I1 : MI) (L1 : ML), f_X7_rank a0 I L = some (r, I1, L1) ∧ ∃ (I2 : MI) (L2 : ML), f_X8_rank a0 I1 L1 = some (r, I2, L2) ∧ Inv I2 L2 rm
set_option maxRecDepth 100000 in
set_option maxHeartbeats 4000000 in
theorem lc_20 {G : GT Unit} {b Ls rm c s : Nat} {xs : Nat → Int32} {x3 : Int32} {I : MI} {L : ML} {X : Option Unit} {Inv : MI → ML → Nat → Prop} (hp : PR_20 Inv) (hc : Cx G code RL ret 14 552) (hX : LX G b Ls xs rm c s) (h1 : vp_in (x3 + 1) Ls) (h2 : vp_in (x3 + 2) Ls) (h3 : vp_in (x3 + 3) Ls) (h4 : vp_in (x3 + 4) Ls) (h5 : vp_in (x3 + 5) Ls) (hInv : Inv I L rm) (hrm : rm ≤ 5040) (hcb : c + 20 ≤ 600000) (hsb : s + 90748 ≤ 7302250)
    (kk : ∀ (G : GT Unit) (rm1 c1 s1 : Nat) (I2 : MI) (L2 : ML), Cx G code RL ret 14 552 → LX G b Ls xs rm1 c1 s1 → Inv I2 L2 rm1 → RS rm rm1 → c1 = c + mcA rm rm1 → s1 = s + msA rm rm1 → WW G 2377 [(0, .ref 4000000), (1, .ref 0), (2, .ref 43), (3, .int x3)] [] I2 L2 X) : WW G 1034 [(0, .ref 4000000), (1, .ref 0), (2, .ref 43), (3, .int x3)] [] I L X := by
  obtain ⟨r, I1, L1, e1, I2, L2, e2, hI2⟩ := hp I L rm ((lshl (Int32.toInt64 (xs (ix (x3 + 1)))) 32) ||| ((Int32.toInt64 (xs (ix (x3 + 2)))) &&& 4294967295)) hInv
  refine w_aload_n (q := 1035) (i := 1) (j := 1) hc dL_law_1034 rfl rfl rfl ?_
  refine w_aload_n (q := 1036) (i := 0) (j := 0) hc dL_law_1035 rfl rfl rfl ?_
  refine w_iload_n (q := 1037) (i := 3) (j := 3) hc dL_law_1036 rfl rfl rfl ?_
  refine w_iconst (q := 1038) hc dL_law_1037 ci_1 rfl ?_
  refine w_iadd (q := 1039) hc dL_law_1038 rfl ?_
  refine w_sld4 (q := 1040) hc hX dL_law_1039 h1 rfl ?_
  refine w_i2l (q := 1041) hc dL_law_1040 rfl ?_
  refine w_bipush (q := 1043) hc dL_law_1041 cb_32 rfl ?_
  refine w_lshl (q := 1044) hc dL_law_1043 rfl ?_
  refine w_aload_n (q := 1045) (i := 0) (j := 0) hc dL_law_1044 rfl rfl rfl ?_
  refine w_iload_n (q := 1046) (i := 3) (j := 3) hc dL_law_1045 rfl rfl rfl ?_
  refine w_iconst (q := 1047) hc dL_law_1046 ci_2 rfl ?_
  refine w_iadd (q := 1048) hc dL_law_1047 rfl ?_
  refine w_sld4 (q := 1049) hc hX dL_law_1048 h2 rfl ?_
  refine w_i2l (q := 1050) hc dL_law_1049 rfl ?_
  refine w_ldc2 (q := 1053) hc dL_law_1050 kl_L_46 rfl ?_
  refine w_land (q := 1054) hc dL_law_1053 rfl ?_
  refine w_lor (q := 1055) hc dL_law_1054 rfl ?_
  refine w_lawV (x := (r, I1, L1)) (q := 1058) (st := []) (args := [.long ((lshl (Int32.toInt64 (xs (ix (x3 + 1)))) 32) ||| ((Int32.toInt64 (xs (ix (x3 + 2)))) &&& 4294967295))]) (p := 0) e1 hc (m_X7_rank hX.1 hX.2.1) dL_law_1055 ml_L_105 cf_X7_rank iv_X7_rank (k_0 hX.1) (C := RX7) (T := TX7) (N := 7) rfl rfl (by decide) rfl rfl (Nat.le_of_ble_eq_true rfl) ⟨Nat.le_of_ble_eq_true rfl, Nat.le_of_ble_eq_true rfl⟩ rfl ?_
  show WW G 1058 [(0, .ref 4000000), (1, .ref 0), (2, .ref 43), (3, .int x3)] [.int r] I1 L1 X
  refine w_aload_n (q := 1059) (i := 2) (j := 2) hc dL_law_1058 rfl rfl rfl ?_
  refine w_aload_n (q := 1060) (i := 0) (j := 0) hc dL_law_1059 rfl rfl rfl ?_
  refine w_iload_n (q := 1061) (i := 3) (j := 3) hc dL_law_1060 rfl rfl rfl ?_
  refine w_iconst (q := 1062) hc dL_law_1061 ci_1 rfl ?_
  refine w_iadd (q := 1063) hc dL_law_1062 rfl ?_
  refine w_sld4 (q := 1064) hc hX dL_law_1063 h1 rfl ?_
  refine w_i2l (q := 1065) hc dL_law_1064 rfl ?_
  refine w_bipush (q := 1067) hc dL_law_1065 cb_32 rfl ?_
  refine w_lshl (q := 1068) hc dL_law_1067 rfl ?_
  refine w_aload_n (q := 1069) (i := 0) (j := 0) hc dL_law_1068 rfl rfl rfl ?_
  refine w_iload_n (q := 1070) (i := 3) (j := 3) hc dL_law_1069 rfl rfl rfl ?_
  refine w_iconst (q := 1071) hc dL_law_1070 ci_2 rfl ?_
  refine w_iadd (q := 1072) hc dL_law_1071 rfl ?_
  refine w_sld4 (q := 1073) hc hX dL_law_1072 h2 rfl ?_
  refine w_i2l (q := 1074) hc dL_law_1073 rfl ?_
  refine w_ldc2 (q := 1077) hc dL_law_1074 kl_L_46 rfl ?_
  refine w_land (q := 1078) hc dL_law_1077 rfl ?_
  refine w_lor (q := 1079) hc dL_law_1078 rfl ?_
  refine w_lawV (x := (r, I2, L2)) (q := 1082) (st := [.int r]) (args := [.long ((lshl (Int32.toInt64 (xs (ix (x3 + 1)))) 32) ||| ((Int32.toInt64 (xs (ix (x3 + 2)))) &&& 4294967295))]) (p := 43) e2 hc (m_X8_rank hX.1 hX.2.1) dL_law_1079 ml_L_108 cf_X8_rank iv_X8_rank (k_43 hX.1) (C := RX8) (T := TX8) (N := 45) rfl rfl (by decide) rfl rfl (Nat.le_of_ble_eq_true rfl) ⟨Nat.le_of_ble_eq_true rfl, Nat.le_of_ble_eq_true rfl⟩ rfl ?_
  show WW G 1082 [(0, .ref 4000000), (1, .ref 0), (2, .ref 43), (3, .int x3)] [.int r, .int r] I2 L2 X
  refine w_icmpeqT (tgt := 2377) hc dL_law_1082 rfl ?_
  exact kk G rm c s I2 L2 hc hX hI2 (Or.inl rfl) (by rw [mcA_0]; rfl) (by rw [msA_0]; rfl)
/-- way -/
def PR_21 (Inv : MI → ML → Nat → Prop) : Prop := ∀ (I : MI) (L : ML) (rm : Nat) (a0 : Int64) (a1 : Int32), Inv I L rm → ∃ (r : Int32) (I1 : MI) (L1 : ML) (rm1 : Nat), f_X7_way rm a0 a1 I L = some ((r, I1, L1), rm1) ∧ RS rm rm1 ∧ ∃ (I2 : MI) (L2 : ML), f_X8_way a0 a1 I1 L1 = some (r, I2, L2) ∧ Inv I2 L2 rm1
set_option maxRecDepth 100000 in
set_option maxHeartbeats 4000000 in
theorem lc_21 {G : GT Unit} {b Ls rm c s : Nat} {xs : Nat → Int32} {x3 : Int32} {I : MI} {L : ML} {X : Option Unit} {Inv : MI → ML → Nat → Prop} (hp : PR_21 Inv) (hc : Cx G code RL ret 14 552) (hX : LX G b Ls xs rm c s) (h1 : vp_in (x3 + 1) Ls) (h2 : vp_in (x3 + 2) Ls) (h3 : vp_in (x3 + 3) Ls) (h4 : vp_in (x3 + 4) Ls) (h5 : vp_in (x3 + 5) Ls) (hInv : Inv I L rm) (hrm : rm ≤ 5040) (hcb : c + 20 ≤ 600000) (hsb : s + 90748 ≤ 7302250)
    (kk : ∀ (G : GT Unit) (rm1 c1 s1 : Nat) (I2 : MI) (L2 : ML), Cx G code RL ret 14 552 → LX G b Ls xs rm1 c1 s1 → Inv I2 L2 rm1 → RS rm rm1 → c1 = c + mcA rm rm1 → s1 = s + msA rm rm1 → WW G 2377 [(0, .ref 4000000), (1, .ref 0), (2, .ref 43), (3, .int x3)] [] I2 L2 X) : WW G 1087 [(0, .ref 4000000), (1, .ref 0), (2, .ref 43), (3, .int x3)] [] I L X := by
  obtain ⟨r, I1, L1, rm1, e1, hrs, I2, L2, e2, hI2⟩ := hp I L rm ((lshl (Int32.toInt64 (xs (ix (x3 + 1)))) 32) ||| ((Int32.toInt64 (xs (ix (x3 + 2)))) &&& 4294967295)) (xs (ix (x3 + 3))) hInv
  refine w_aload_n (q := 1088) (i := 1) (j := 1) hc dL_law_1087 rfl rfl rfl ?_
  refine w_aload_n (q := 1089) (i := 0) (j := 0) hc dL_law_1088 rfl rfl rfl ?_
  refine w_iload_n (q := 1090) (i := 3) (j := 3) hc dL_law_1089 rfl rfl rfl ?_
  refine w_iconst (q := 1091) hc dL_law_1090 ci_1 rfl ?_
  refine w_iadd (q := 1092) hc dL_law_1091 rfl ?_
  refine w_sld4 (q := 1093) hc hX dL_law_1092 h1 rfl ?_
  refine w_i2l (q := 1094) hc dL_law_1093 rfl ?_
  refine w_bipush (q := 1096) hc dL_law_1094 cb_32 rfl ?_
  refine w_lshl (q := 1097) hc dL_law_1096 rfl ?_
  refine w_aload_n (q := 1098) (i := 0) (j := 0) hc dL_law_1097 rfl rfl rfl ?_
  refine w_iload_n (q := 1099) (i := 3) (j := 3) hc dL_law_1098 rfl rfl rfl ?_
  refine w_iconst (q := 1100) hc dL_law_1099 ci_2 rfl ?_
  refine w_iadd (q := 1101) hc dL_law_1100 rfl ?_
  refine w_sld4 (q := 1102) hc hX dL_law_1101 h2 rfl ?_
  refine w_i2l (q := 1103) hc dL_law_1102 rfl ?_
  refine w_ldc2 (q := 1106) hc dL_law_1103 kl_L_46 rfl ?_
  refine w_land (q := 1107) hc dL_law_1106 rfl ?_
  refine w_lor (q := 1108) hc dL_law_1107 rfl ?_
  refine w_aload_n (q := 1109) (i := 0) (j := 0) hc dL_law_1108 rfl rfl rfl ?_
  refine w_iload_n (q := 1110) (i := 3) (j := 3) hc dL_law_1109 rfl rfl rfl ?_
  refine w_iconst (q := 1111) hc dL_law_1110 ci_3 rfl ?_
  refine w_iadd (q := 1112) hc dL_law_1111 rfl ?_
  refine w_sld4 (q := 1113) hc hX dL_law_1112 h3 rfl ?_
  refine w_lawA (x := ((r, I1, L1), rm1)) (q := 1116) (st := []) (args := [.long ((lshl (Int32.toInt64 (xs (ix (x3 + 1)))) 32) ||| ((Int32.toInt64 (xs (ix (x3 + 2)))) &&& 4294967295)), .int (xs (ix (x3 + 3)))]) (p := 0) e1 hc hX m_X7_way dL_law_1113 ml_L_109 cf_X7_way iv_X7_way (k_0 hX.1) (C := RX7) (T := TX7) (N := 7) rfl rfl (by decide) rfl rfl (Nat.le_of_ble_eq_true rfl) ⟨Nat.le_of_ble_eq_true rfl, Nat.le_of_ble_eq_true rfl⟩ rfl rfl (hrs.le hrm) hcb hsb rfl (fun G hc hX => ?_)
  show WW G 1116 [(0, .ref 4000000), (1, .ref 0), (2, .ref 43), (3, .int x3)] [.int r] I1 L1 X
  refine w_aload_n (q := 1117) (i := 2) (j := 2) hc dL_law_1116 rfl rfl rfl ?_
  refine w_aload_n (q := 1118) (i := 0) (j := 0) hc dL_law_1117 rfl rfl rfl ?_
  refine w_iload_n (q := 1119) (i := 3) (j := 3) hc dL_law_1118 rfl rfl rfl ?_
  refine w_iconst (q := 1120) hc dL_law_1119 ci_1 rfl ?_
  refine w_iadd (q := 1121) hc dL_law_1120 rfl ?_
  refine w_sld4 (q := 1122) hc hX dL_law_1121 h1 rfl ?_
  refine w_i2l (q := 1123) hc dL_law_1122 rfl ?_
  refine w_bipush (q := 1125) hc dL_law_1123 cb_32 rfl ?_
  refine w_lshl (q := 1126) hc dL_law_1125 rfl ?_
  refine w_aload_n (q := 1127) (i := 0) (j := 0) hc dL_law_1126 rfl rfl rfl ?_
  refine w_iload_n (q := 1128) (i := 3) (j := 3) hc dL_law_1127 rfl rfl rfl ?_
  refine w_iconst (q := 1129) hc dL_law_1128 ci_2 rfl ?_
  refine w_iadd (q := 1130) hc dL_law_1129 rfl ?_
  refine w_sld4 (q := 1131) hc hX dL_law_1130 h2 rfl ?_
  refine w_i2l (q := 1132) hc dL_law_1131 rfl ?_
  refine w_ldc2 (q := 1135) hc dL_law_1132 kl_L_46 rfl ?_
  refine w_land (q := 1136) hc dL_law_1135 rfl ?_
  refine w_lor (q := 1137) hc dL_law_1136 rfl ?_
  refine w_aload_n (q := 1138) (i := 0) (j := 0) hc dL_law_1137 rfl rfl rfl ?_
  refine w_iload_n (q := 1139) (i := 3) (j := 3) hc dL_law_1138 rfl rfl rfl ?_
  refine w_iconst (q := 1140) hc dL_law_1139 ci_3 rfl ?_
  refine w_iadd (q := 1141) hc dL_law_1140 rfl ?_
  refine w_sld4 (q := 1142) hc hX dL_law_1141 h3 rfl ?_
  refine w_lawV (x := (r, I2, L2)) (q := 1145) (st := [.int r]) (args := [.long ((lshl (Int32.toInt64 (xs (ix (x3 + 1)))) 32) ||| ((Int32.toInt64 (xs (ix (x3 + 2)))) &&& 4294967295)), .int (xs (ix (x3 + 3)))]) (p := 43) e2 hc (m_X8_way hX.1 hX.2.1) dL_law_1142 ml_L_112 cf_X8_way iv_X8_way (k_43 hX.1) (C := RX8) (T := TX8) (N := 45) rfl rfl (by decide) rfl rfl (Nat.le_of_ble_eq_true rfl) ⟨Nat.le_of_ble_eq_true rfl, Nat.le_of_ble_eq_true rfl⟩ rfl ?_
  show WW G 1145 [(0, .ref 4000000), (1, .ref 0), (2, .ref 43), (3, .int x3)] [.int r, .int r] I2 L2 X
  refine w_icmpeqT (tgt := 2377) hc dL_law_1145 rfl ?_
  exact kk G rm1 _ _ I2 L2 hc hX hI2 hrs rfl rfl
/-- deep -/
def PR_22 (Inv : MI → ML → Nat → Prop) : Prop := ∀ (I : MI) (L : ML) (rm : Nat) (a0 : Int32), Inv I L rm → ∃ (r : Int32) (I1 : MI) (L1 : ML) (rm1 : Nat), f_X7_deep rm a0 I L = some ((r, I1, L1), rm1) ∧ RS rm rm1 ∧ ∃ (I2 : MI) (L2 : ML), f_X8_deep a0 I1 L1 = some (r, I2, L2) ∧ Inv I2 L2 rm1
set_option maxRecDepth 100000 in
set_option maxHeartbeats 4000000 in
theorem lc_22 {G : GT Unit} {b Ls rm c s : Nat} {xs : Nat → Int32} {x3 : Int32} {I : MI} {L : ML} {X : Option Unit} {Inv : MI → ML → Nat → Prop} (hp : PR_22 Inv) (hc : Cx G code RL ret 14 552) (hX : LX G b Ls xs rm c s) (h1 : vp_in (x3 + 1) Ls) (h2 : vp_in (x3 + 2) Ls) (h3 : vp_in (x3 + 3) Ls) (h4 : vp_in (x3 + 4) Ls) (h5 : vp_in (x3 + 5) Ls) (hInv : Inv I L rm) (hrm : rm ≤ 5040) (hcb : c + 20 ≤ 600000) (hsb : s + 90748 ≤ 7302250)
    (kk : ∀ (G : GT Unit) (rm1 c1 s1 : Nat) (I2 : MI) (L2 : ML), Cx G code RL ret 14 552 → LX G b Ls xs rm1 c1 s1 → Inv I2 L2 rm1 → RS rm rm1 → c1 = c + mcA rm rm1 → s1 = s + msA rm rm1 → WW G 2377 [(0, .ref 4000000), (1, .ref 0), (2, .ref 43), (3, .int x3)] [] I2 L2 X) : WW G 1150 [(0, .ref 4000000), (1, .ref 0), (2, .ref 43), (3, .int x3)] [] I L X := by
  obtain ⟨r, I1, L1, rm1, e1, hrs, I2, L2, e2, hI2⟩ := hp I L rm (xs (ix (x3 + 1))) hInv
  refine w_aload_n (q := 1151) (i := 1) (j := 1) hc dL_law_1150 rfl rfl rfl ?_
  refine w_aload_n (q := 1152) (i := 0) (j := 0) hc dL_law_1151 rfl rfl rfl ?_
  refine w_iload_n (q := 1153) (i := 3) (j := 3) hc dL_law_1152 rfl rfl rfl ?_
  refine w_iconst (q := 1154) hc dL_law_1153 ci_1 rfl ?_
  refine w_iadd (q := 1155) hc dL_law_1154 rfl ?_
  refine w_sld4 (q := 1156) hc hX dL_law_1155 h1 rfl ?_
  refine w_lawA (x := ((r, I1, L1), rm1)) (q := 1159) (st := []) (args := [.int (xs (ix (x3 + 1)))]) (p := 0) e1 hc hX m_X7_deep dL_law_1156 ml_L_113 cf_X7_deep iv_X7_deep (k_0 hX.1) (C := RX7) (T := TX7) (N := 7) rfl rfl (by decide) rfl rfl (Nat.le_of_ble_eq_true rfl) ⟨Nat.le_of_ble_eq_true rfl, Nat.le_of_ble_eq_true rfl⟩ rfl rfl (hrs.le hrm) hcb hsb rfl (fun G hc hX => ?_)
  show WW G 1159 [(0, .ref 4000000), (1, .ref 0), (2, .ref 43), (3, .int x3)] [.int r] I1 L1 X
  refine w_aload_n (q := 1160) (i := 2) (j := 2) hc dL_law_1159 rfl rfl rfl ?_
  refine w_aload_n (q := 1161) (i := 0) (j := 0) hc dL_law_1160 rfl rfl rfl ?_
  refine w_iload_n (q := 1162) (i := 3) (j := 3) hc dL_law_1161 rfl rfl rfl ?_
  refine w_iconst (q := 1163) hc dL_law_1162 ci_1 rfl ?_
  refine w_iadd (q := 1164) hc dL_law_1163 rfl ?_
  refine w_sld4 (q := 1165) hc hX dL_law_1164 h1 rfl ?_
  refine w_lawV (x := (r, I2, L2)) (q := 1168) (st := [.int r]) (args := [.int (xs (ix (x3 + 1)))]) (p := 43) e2 hc (m_X8_deep hX.1 hX.2.1) dL_law_1165 ml_L_116 cf_X8_deep iv_X8_deep (k_43 hX.1) (C := RX8) (T := TX8) (N := 45) rfl rfl (by decide) rfl rfl (Nat.le_of_ble_eq_true rfl) ⟨Nat.le_of_ble_eq_true rfl, Nat.le_of_ble_eq_true rfl⟩ rfl ?_
  show WW G 1168 [(0, .ref 4000000), (1, .ref 0), (2, .ref 43), (3, .int x3)] [.int r, .int r] I2 L2 X
  refine w_icmpeqT (tgt := 2377) hc dL_law_1168 rfl ?_
  exact kk G rm1 _ _ I2 L2 hc hX hI2 hrs rfl rfl
/-- deepest -/
def PR_23 (Inv : MI → ML → Nat → Prop) : Prop := ∀ (I : MI) (L : ML) (rm : Nat) (a0 : Int32), Inv I L rm → ∃ (r : Int32) (I1 : MI) (L1 : ML) (rm1 : Nat), f_X7_deepest rm a0 I L = some ((r, I1, L1), rm1) ∧ RS rm rm1 ∧ ∃ (I2 : MI) (L2 : ML), f_X8_deepest a0 I1 L1 = some (r, I2, L2) ∧ Inv I2 L2 rm1
set_option maxRecDepth 100000 in
set_option maxHeartbeats 4000000 in
theorem lc_23 {G : GT Unit} {b Ls rm c s : Nat} {xs : Nat → Int32} {x3 : Int32} {I : MI} {L : ML} {X : Option Unit} {Inv : MI → ML → Nat → Prop} (hp : PR_23 Inv) (hc : Cx G code RL ret 14 552) (hX : LX G b Ls xs rm c s) (h1 : vp_in (x3 + 1) Ls) (h2 : vp_in (x3 + 2) Ls) (h3 : vp_in (x3 + 3) Ls) (h4 : vp_in (x3 + 4) Ls) (h5 : vp_in (x3 + 5) Ls) (hInv : Inv I L rm) (hrm : rm ≤ 5040) (hcb : c + 20 ≤ 600000) (hsb : s + 90748 ≤ 7302250)
    (kk : ∀ (G : GT Unit) (rm1 c1 s1 : Nat) (I2 : MI) (L2 : ML), Cx G code RL ret 14 552 → LX G b Ls xs rm1 c1 s1 → Inv I2 L2 rm1 → RS rm rm1 → c1 = c + mcA rm rm1 → s1 = s + msA rm rm1 → WW G 2377 [(0, .ref 4000000), (1, .ref 0), (2, .ref 43), (3, .int x3)] [] I2 L2 X) : WW G 1173 [(0, .ref 4000000), (1, .ref 0), (2, .ref 43), (3, .int x3)] [] I L X := by
  obtain ⟨r, I1, L1, rm1, e1, hrs, I2, L2, e2, hI2⟩ := hp I L rm (xs (ix (x3 + 1))) hInv
  refine w_aload_n (q := 1174) (i := 1) (j := 1) hc dL_law_1173 rfl rfl rfl ?_
  refine w_aload_n (q := 1175) (i := 0) (j := 0) hc dL_law_1174 rfl rfl rfl ?_
  refine w_iload_n (q := 1176) (i := 3) (j := 3) hc dL_law_1175 rfl rfl rfl ?_
  refine w_iconst (q := 1177) hc dL_law_1176 ci_1 rfl ?_
  refine w_iadd (q := 1178) hc dL_law_1177 rfl ?_
  refine w_sld4 (q := 1179) hc hX dL_law_1178 h1 rfl ?_
  refine w_lawA (x := ((r, I1, L1), rm1)) (q := 1182) (st := []) (args := [.int (xs (ix (x3 + 1)))]) (p := 0) e1 hc hX m_X7_deepest dL_law_1179 ml_L_117 cf_X7_deepest iv_X7_deepest (k_0 hX.1) (C := RX7) (T := TX7) (N := 7) rfl rfl (by decide) rfl rfl (Nat.le_of_ble_eq_true rfl) ⟨Nat.le_of_ble_eq_true rfl, Nat.le_of_ble_eq_true rfl⟩ rfl rfl (hrs.le hrm) hcb hsb rfl (fun G hc hX => ?_)
  show WW G 1182 [(0, .ref 4000000), (1, .ref 0), (2, .ref 43), (3, .int x3)] [.int r] I1 L1 X
  refine w_aload_n (q := 1183) (i := 2) (j := 2) hc dL_law_1182 rfl rfl rfl ?_
  refine w_aload_n (q := 1184) (i := 0) (j := 0) hc dL_law_1183 rfl rfl rfl ?_
  refine w_iload_n (q := 1185) (i := 3) (j := 3) hc dL_law_1184 rfl rfl rfl ?_
  refine w_iconst (q := 1186) hc dL_law_1185 ci_1 rfl ?_
  refine w_iadd (q := 1187) hc dL_law_1186 rfl ?_
  refine w_sld4 (q := 1188) hc hX dL_law_1187 h1 rfl ?_
  refine w_lawV (x := (r, I2, L2)) (q := 1191) (st := [.int r]) (args := [.int (xs (ix (x3 + 1)))]) (p := 43) e2 hc (m_X8_deepest hX.1 hX.2.1) dL_law_1188 ml_L_120 cf_X8_deepest iv_X8_deepest (k_43 hX.1) (C := RX8) (T := TX8) (N := 45) rfl rfl (by decide) rfl rfl (Nat.le_of_ble_eq_true rfl) ⟨Nat.le_of_ble_eq_true rfl, Nat.le_of_ble_eq_true rfl⟩ rfl ?_
  show WW G 1191 [(0, .ref 4000000), (1, .ref 0), (2, .ref 43), (3, .int x3)] [.int r, .int r] I2 L2 X
  refine w_icmpeqT (tgt := 2377) hc dL_law_1191 rfl ?_
  exact kk G rm1 _ _ I2 L2 hc hX hI2 hrs rfl rfl
/-- mean -/
def PR_24 (Inv : MI → ML → Nat → Prop) : Prop := ∀ (I : MI) (L : ML) (rm : Nat) (a0 : Int32), Inv I L rm → ∃ (r : Int32) (I1 : MI) (L1 : ML) (rm1 : Nat), f_X7_mean rm a0 I L = some ((r, I1, L1), rm1) ∧ RS rm rm1 ∧ ∃ (I2 : MI) (L2 : ML), f_X8_mean a0 I1 L1 = some (r, I2, L2) ∧ Inv I2 L2 rm1
set_option maxRecDepth 100000 in
set_option maxHeartbeats 4000000 in
theorem lc_24 {G : GT Unit} {b Ls rm c s : Nat} {xs : Nat → Int32} {x3 : Int32} {I : MI} {L : ML} {X : Option Unit} {Inv : MI → ML → Nat → Prop} (hp : PR_24 Inv) (hc : Cx G code RL ret 14 552) (hX : LX G b Ls xs rm c s) (h1 : vp_in (x3 + 1) Ls) (h2 : vp_in (x3 + 2) Ls) (h3 : vp_in (x3 + 3) Ls) (h4 : vp_in (x3 + 4) Ls) (h5 : vp_in (x3 + 5) Ls) (hInv : Inv I L rm) (hrm : rm ≤ 5040) (hcb : c + 20 ≤ 600000) (hsb : s + 90748 ≤ 7302250)
    (kk : ∀ (G : GT Unit) (rm1 c1 s1 : Nat) (I2 : MI) (L2 : ML), Cx G code RL ret 14 552 → LX G b Ls xs rm1 c1 s1 → Inv I2 L2 rm1 → RS rm rm1 → c1 = c + mcA rm rm1 → s1 = s + msA rm rm1 → WW G 2377 [(0, .ref 4000000), (1, .ref 0), (2, .ref 43), (3, .int x3)] [] I2 L2 X) : WW G 1196 [(0, .ref 4000000), (1, .ref 0), (2, .ref 43), (3, .int x3)] [] I L X := by
  obtain ⟨r, I1, L1, rm1, e1, hrs, I2, L2, e2, hI2⟩ := hp I L rm (xs (ix (x3 + 1))) hInv
  refine w_aload_n (q := 1197) (i := 1) (j := 1) hc dL_law_1196 rfl rfl rfl ?_
  refine w_aload_n (q := 1198) (i := 0) (j := 0) hc dL_law_1197 rfl rfl rfl ?_
  refine w_iload_n (q := 1199) (i := 3) (j := 3) hc dL_law_1198 rfl rfl rfl ?_
  refine w_iconst (q := 1200) hc dL_law_1199 ci_1 rfl ?_
  refine w_iadd (q := 1201) hc dL_law_1200 rfl ?_
  refine w_sld4 (q := 1202) hc hX dL_law_1201 h1 rfl ?_
  refine w_lawA (x := ((r, I1, L1), rm1)) (q := 1205) (st := []) (args := [.int (xs (ix (x3 + 1)))]) (p := 0) e1 hc hX m_X7_mean dL_law_1202 ml_L_121 cf_X7_mean iv_X7_mean (k_0 hX.1) (C := RX7) (T := TX7) (N := 7) rfl rfl (by decide) rfl rfl (Nat.le_of_ble_eq_true rfl) ⟨Nat.le_of_ble_eq_true rfl, Nat.le_of_ble_eq_true rfl⟩ rfl rfl (hrs.le hrm) hcb hsb rfl (fun G hc hX => ?_)
  show WW G 1205 [(0, .ref 4000000), (1, .ref 0), (2, .ref 43), (3, .int x3)] [.int r] I1 L1 X
  refine w_aload_n (q := 1206) (i := 2) (j := 2) hc dL_law_1205 rfl rfl rfl ?_
  refine w_aload_n (q := 1207) (i := 0) (j := 0) hc dL_law_1206 rfl rfl rfl ?_
  refine w_iload_n (q := 1208) (i := 3) (j := 3) hc dL_law_1207 rfl rfl rfl ?_
  refine w_iconst (q := 1209) hc dL_law_1208 ci_1 rfl ?_
  refine w_iadd (q := 1210) hc dL_law_1209 rfl ?_
  refine w_sld4 (q := 1211) hc hX dL_law_1210 h1 rfl ?_
  refine w_lawV (x := (r, I2, L2)) (q := 1214) (st := [.int r]) (args := [.int (xs (ix (x3 + 1)))]) (p := 43) e2 hc (m_X8_mean hX.1 hX.2.1) dL_law_1211 ml_L_124 cf_X8_mean iv_X8_mean (k_43 hX.1) (C := RX8) (T := TX8) (N := 45) rfl rfl (by decide) rfl rfl (Nat.le_of_ble_eq_true rfl) ⟨Nat.le_of_ble_eq_true rfl, Nat.le_of_ble_eq_true rfl⟩ rfl ?_
  show WW G 1214 [(0, .ref 4000000), (1, .ref 0), (2, .ref 43), (3, .int x3)] [.int r, .int r] I2 L2 X
  refine w_icmpeqT (tgt := 2377) hc dL_law_1214 rfl ?_
  exact kk G rm1 _ _ I2 L2 hc hX hI2 hrs rfl rfl
/-- nearer -/
def PR_25 (Inv : MI → ML → Nat → Prop) : Prop := ∀ (I : MI) (L : ML) (rm : Nat), Inv I L rm → ∃ (r : Int32) (I1 : MI) (L1 : ML) (rm1 : Nat), f_X7_nearer rm I L = some ((r, I1, L1), rm1) ∧ RS rm rm1 ∧ ∃ (I2 : MI) (L2 : ML), f_X8_nearer I1 L1 = some (r, I2, L2) ∧ Inv I2 L2 rm1
set_option maxRecDepth 100000 in
set_option maxHeartbeats 4000000 in
theorem lc_25 {G : GT Unit} {b Ls rm c s : Nat} {xs : Nat → Int32} {x3 : Int32} {I : MI} {L : ML} {X : Option Unit} {Inv : MI → ML → Nat → Prop} (hp : PR_25 Inv) (hc : Cx G code RL ret 14 552) (hX : LX G b Ls xs rm c s) (h1 : vp_in (x3 + 1) Ls) (h2 : vp_in (x3 + 2) Ls) (h3 : vp_in (x3 + 3) Ls) (h4 : vp_in (x3 + 4) Ls) (h5 : vp_in (x3 + 5) Ls) (hInv : Inv I L rm) (hrm : rm ≤ 5040) (hcb : c + 20 ≤ 600000) (hsb : s + 90748 ≤ 7302250)
    (kk : ∀ (G : GT Unit) (rm1 c1 s1 : Nat) (I2 : MI) (L2 : ML), Cx G code RL ret 14 552 → LX G b Ls xs rm1 c1 s1 → Inv I2 L2 rm1 → RS rm rm1 → c1 = c + mcA rm rm1 → s1 = s + msA rm rm1 → WW G 2377 [(0, .ref 4000000), (1, .ref 0), (2, .ref 43), (3, .int x3)] [] I2 L2 X) : WW G 1219 [(0, .ref 4000000), (1, .ref 0), (2, .ref 43), (3, .int x3)] [] I L X := by
  obtain ⟨r, I1, L1, rm1, e1, hrs, I2, L2, e2, hI2⟩ := hp I L rm hInv
  refine w_aload_n (q := 1220) (i := 1) (j := 1) hc dL_law_1219 rfl rfl rfl ?_
  refine w_lawA (x := ((r, I1, L1), rm1)) (q := 1223) (st := []) (args := []) (p := 0) e1 hc hX m_X7_nearer dL_law_1220 ml_L_125 cf_X7_nearer iv_X7_nearer (k_0 hX.1) (C := RX7) (T := TX7) (N := 7) rfl rfl (by decide) rfl rfl (Nat.le_of_ble_eq_true rfl) ⟨Nat.le_of_ble_eq_true rfl, Nat.le_of_ble_eq_true rfl⟩ rfl rfl (hrs.le hrm) hcb hsb rfl (fun G hc hX => ?_)
  show WW G 1223 [(0, .ref 4000000), (1, .ref 0), (2, .ref 43), (3, .int x3)] [.int r] I1 L1 X
  refine w_aload_n (q := 1224) (i := 2) (j := 2) hc dL_law_1223 rfl rfl rfl ?_
  refine w_lawV (x := (r, I2, L2)) (q := 1227) (st := [.int r]) (args := []) (p := 43) e2 hc (m_X8_nearer hX.1 hX.2.1) dL_law_1224 ml_L_128 cf_X8_nearer iv_X8_nearer (k_43 hX.1) (C := RX8) (T := TX8) (N := 45) rfl rfl (by decide) rfl rfl (Nat.le_of_ble_eq_true rfl) ⟨Nat.le_of_ble_eq_true rfl, Nat.le_of_ble_eq_true rfl⟩ rfl ?_
  show WW G 1227 [(0, .ref 4000000), (1, .ref 0), (2, .ref 43), (3, .int x3)] [.int r, .int r] I2 L2 X
  refine w_icmpeqT (tgt := 2377) hc dL_law_1227 rfl ?_
  exact kk G rm1 _ _ I2 L2 hc hX hI2 hrs rfl rfl
/-- solve -/
def PR_26 (Inv : MI → ML → Nat → Prop) : Prop := ∀ (I : MI) (L : ML) (rm : Nat) (a0 : Int32), Inv I L rm → ∃ (r : Int32) (I1 : MI) (L1 : ML) (rm1 : Nat), f_X7_solve rm a0 I L = some ((r, I1, L1), rm1) ∧ RS rm rm1 ∧ ∃ (I2 : MI) (L2 : ML), f_X8_solve a0 I1 L1 = some (r, I2, L2) ∧ Inv I2 L2 rm1
set_option maxRecDepth 100000 in
set_option maxHeartbeats 4000000 in
theorem lc_26 {G : GT Unit} {b Ls rm c s : Nat} {xs : Nat → Int32} {x3 : Int32} {I : MI} {L : ML} {X : Option Unit} {Inv : MI → ML → Nat → Prop} (hp : PR_26 Inv) (hc : Cx G code RL ret 14 552) (hX : LX G b Ls xs rm c s) (h1 : vp_in (x3 + 1) Ls) (h2 : vp_in (x3 + 2) Ls) (h3 : vp_in (x3 + 3) Ls) (h4 : vp_in (x3 + 4) Ls) (h5 : vp_in (x3 + 5) Ls) (hInv : Inv I L rm) (hrm : rm ≤ 5040) (hcb : c + 20 ≤ 600000) (hsb : s + 90748 ≤ 7302250)
    (kk : ∀ (G : GT Unit) (rm1 c1 s1 : Nat) (I2 : MI) (L2 : ML), Cx G code RL ret 14 552 → LX G b Ls xs rm1 c1 s1 → Inv I2 L2 rm1 → RS rm rm1 → c1 = c + mcA rm rm1 → s1 = s + msA rm rm1 → WW G 2377 [(0, .ref 4000000), (1, .ref 0), (2, .ref 43), (3, .int x3)] [] I2 L2 X) : WW G 1232 [(0, .ref 4000000), (1, .ref 0), (2, .ref 43), (3, .int x3)] [] I L X := by
  obtain ⟨r, I1, L1, rm1, e1, hrs, I2, L2, e2, hI2⟩ := hp I L rm (xs (ix (x3 + 1))) hInv
  refine w_aload_n (q := 1233) (i := 1) (j := 1) hc dL_law_1232 rfl rfl rfl ?_
  refine w_aload_n (q := 1234) (i := 0) (j := 0) hc dL_law_1233 rfl rfl rfl ?_
  refine w_iload_n (q := 1235) (i := 3) (j := 3) hc dL_law_1234 rfl rfl rfl ?_
  refine w_iconst (q := 1236) hc dL_law_1235 ci_1 rfl ?_
  refine w_iadd (q := 1237) hc dL_law_1236 rfl ?_
  refine w_sld4 (q := 1238) hc hX dL_law_1237 h1 rfl ?_
  refine w_lawA (x := ((r, I1, L1), rm1)) (q := 1241) (st := []) (args := [.int (xs (ix (x3 + 1)))]) (p := 0) e1 hc hX m_X7_solve dL_law_1238 ml_L_129 cf_X7_solve iv_X7_solve (k_0 hX.1) (C := RX7) (T := TX7) (N := 7) rfl rfl (by decide) rfl rfl (Nat.le_of_ble_eq_true rfl) ⟨Nat.le_of_ble_eq_true rfl, Nat.le_of_ble_eq_true rfl⟩ rfl rfl (hrs.le hrm) hcb hsb rfl (fun G hc hX => ?_)
  show WW G 1241 [(0, .ref 4000000), (1, .ref 0), (2, .ref 43), (3, .int x3)] [.int r] I1 L1 X
  refine w_aload_n (q := 1242) (i := 2) (j := 2) hc dL_law_1241 rfl rfl rfl ?_
  refine w_aload_n (q := 1243) (i := 0) (j := 0) hc dL_law_1242 rfl rfl rfl ?_
  refine w_iload_n (q := 1244) (i := 3) (j := 3) hc dL_law_1243 rfl rfl rfl ?_
  refine w_iconst (q := 1245) hc dL_law_1244 ci_1 rfl ?_
  refine w_iadd (q := 1246) hc dL_law_1245 rfl ?_
  refine w_sld4 (q := 1247) hc hX dL_law_1246 h1 rfl ?_
  refine w_lawV (x := (r, I2, L2)) (q := 1250) (st := [.int r]) (args := [.int (xs (ix (x3 + 1)))]) (p := 43) e2 hc (m_X8_solve hX.1 hX.2.1) dL_law_1247 ml_L_132 cf_X8_solve iv_X8_solve (k_43 hX.1) (C := RX8) (T := TX8) (N := 45) rfl rfl (by decide) rfl rfl (Nat.le_of_ble_eq_true rfl) ⟨Nat.le_of_ble_eq_true rfl, Nat.le_of_ble_eq_true rfl⟩ rfl ?_
  show WW G 1250 [(0, .ref 4000000), (1, .ref 0), (2, .ref 43), (3, .int x3)] [.int r, .int r] I2 L2 X
  refine w_icmpeqT (tgt := 2377) hc dL_law_1250 rfl ?_
  exact kk G rm1 _ _ I2 L2 hc hX hI2 hrs rfl rfl
/-- centre -/
def PR_27 (Inv : MI → ML → Nat → Prop) : Prop := ∀ (I : MI) (L : ML) (rm : Nat) (a0 : Int32), Inv I L rm → ∃ (r : Int32) (I1 : MI) (L1 : ML) (rm1 : Nat), f_X7_centre rm a0 I L = some ((r, I1, L1), rm1) ∧ RS rm rm1 ∧ ∃ (I2 : MI) (L2 : ML), f_X8_centre a0 I1 L1 = some (r, I2, L2) ∧ Inv I2 L2 rm1
set_option maxRecDepth 100000 in
set_option maxHeartbeats 4000000 in
theorem lc_27 {G : GT Unit} {b Ls rm c s : Nat} {xs : Nat → Int32} {x3 : Int32} {I : MI} {L : ML} {X : Option Unit} {Inv : MI → ML → Nat → Prop} (hp : PR_27 Inv) (hc : Cx G code RL ret 14 552) (hX : LX G b Ls xs rm c s) (h1 : vp_in (x3 + 1) Ls) (h2 : vp_in (x3 + 2) Ls) (h3 : vp_in (x3 + 3) Ls) (h4 : vp_in (x3 + 4) Ls) (h5 : vp_in (x3 + 5) Ls) (hInv : Inv I L rm) (hrm : rm ≤ 5040) (hcb : c + 20 ≤ 600000) (hsb : s + 90748 ≤ 7302250)
    (kk : ∀ (G : GT Unit) (rm1 c1 s1 : Nat) (I2 : MI) (L2 : ML), Cx G code RL ret 14 552 → LX G b Ls xs rm1 c1 s1 → Inv I2 L2 rm1 → RS rm rm1 → c1 = c + mcA rm rm1 → s1 = s + msA rm rm1 → WW G 2377 [(0, .ref 4000000), (1, .ref 0), (2, .ref 43), (3, .int x3)] [] I2 L2 X) : WW G 1255 [(0, .ref 4000000), (1, .ref 0), (2, .ref 43), (3, .int x3)] [] I L X := by
  obtain ⟨r, I1, L1, rm1, e1, hrs, I2, L2, e2, hI2⟩ := hp I L rm (xs (ix (x3 + 1))) hInv
  refine w_aload_n (q := 1256) (i := 1) (j := 1) hc dL_law_1255 rfl rfl rfl ?_
  refine w_aload_n (q := 1257) (i := 0) (j := 0) hc dL_law_1256 rfl rfl rfl ?_
  refine w_iload_n (q := 1258) (i := 3) (j := 3) hc dL_law_1257 rfl rfl rfl ?_
  refine w_iconst (q := 1259) hc dL_law_1258 ci_1 rfl ?_
  refine w_iadd (q := 1260) hc dL_law_1259 rfl ?_
  refine w_sld4 (q := 1261) hc hX dL_law_1260 h1 rfl ?_
  refine w_lawA (x := ((r, I1, L1), rm1)) (q := 1264) (st := []) (args := [.int (xs (ix (x3 + 1)))]) (p := 0) e1 hc hX m_X7_centre dL_law_1261 ml_L_133 cf_X7_centre iv_X7_centre (k_0 hX.1) (C := RX7) (T := TX7) (N := 7) rfl rfl (by decide) rfl rfl (Nat.le_of_ble_eq_true rfl) ⟨Nat.le_of_ble_eq_true rfl, Nat.le_of_ble_eq_true rfl⟩ rfl rfl (hrs.le hrm) hcb hsb rfl (fun G hc hX => ?_)
  show WW G 1264 [(0, .ref 4000000), (1, .ref 0), (2, .ref 43), (3, .int x3)] [.int r] I1 L1 X
  refine w_aload_n (q := 1265) (i := 2) (j := 2) hc dL_law_1264 rfl rfl rfl ?_
  refine w_aload_n (q := 1266) (i := 0) (j := 0) hc dL_law_1265 rfl rfl rfl ?_
  refine w_iload_n (q := 1267) (i := 3) (j := 3) hc dL_law_1266 rfl rfl rfl ?_
  refine w_iconst (q := 1268) hc dL_law_1267 ci_1 rfl ?_
  refine w_iadd (q := 1269) hc dL_law_1268 rfl ?_
  refine w_sld4 (q := 1270) hc hX dL_law_1269 h1 rfl ?_
  refine w_lawV (x := (r, I2, L2)) (q := 1273) (st := [.int r]) (args := [.int (xs (ix (x3 + 1)))]) (p := 43) e2 hc (m_X8_centre hX.1 hX.2.1) dL_law_1270 ml_L_136 cf_X8_centre iv_X8_centre (k_43 hX.1) (C := RX8) (T := TX8) (N := 45) rfl rfl (by decide) rfl rfl (Nat.le_of_ble_eq_true rfl) ⟨Nat.le_of_ble_eq_true rfl, Nat.le_of_ble_eq_true rfl⟩ rfl ?_
  show WW G 1273 [(0, .ref 4000000), (1, .ref 0), (2, .ref 43), (3, .int x3)] [.int r, .int r] I2 L2 X
  refine w_icmpeqT (tgt := 2377) hc dL_law_1273 rfl ?_
  exact kk G rm1 _ _ I2 L2 hc hX hI2 hrs rfl rfl
/-- classes -/
def PR_28 (Inv : MI → ML → Nat → Prop) : Prop := ∀ (I : MI) (L : ML) (rm : Nat), Inv I L rm → ∃ (r : Int32) (I1 : MI) (L1 : ML) (rm1 : Nat), f_X7_classes rm I L = some ((r, I1, L1), rm1) ∧ RS rm rm1 ∧ ∃ (I2 : MI) (L2 : ML), f_X8_classes I1 L1 = some (r, I2, L2) ∧ Inv I2 L2 rm1
set_option maxRecDepth 100000 in
set_option maxHeartbeats 4000000 in
theorem lc_28 {G : GT Unit} {b Ls rm c s : Nat} {xs : Nat → Int32} {x3 : Int32} {I : MI} {L : ML} {X : Option Unit} {Inv : MI → ML → Nat → Prop} (hp : PR_28 Inv) (hc : Cx G code RL ret 14 552) (hX : LX G b Ls xs rm c s) (h1 : vp_in (x3 + 1) Ls) (h2 : vp_in (x3 + 2) Ls) (h3 : vp_in (x3 + 3) Ls) (h4 : vp_in (x3 + 4) Ls) (h5 : vp_in (x3 + 5) Ls) (hInv : Inv I L rm) (hrm : rm ≤ 5040) (hcb : c + 20 ≤ 600000) (hsb : s + 90748 ≤ 7302250)
    (kk : ∀ (G : GT Unit) (rm1 c1 s1 : Nat) (I2 : MI) (L2 : ML), Cx G code RL ret 14 552 → LX G b Ls xs rm1 c1 s1 → Inv I2 L2 rm1 → RS rm rm1 → c1 = c + mcA rm rm1 → s1 = s + msA rm rm1 → WW G 2377 [(0, .ref 4000000), (1, .ref 0), (2, .ref 43), (3, .int x3)] [] I2 L2 X) : WW G 1278 [(0, .ref 4000000), (1, .ref 0), (2, .ref 43), (3, .int x3)] [] I L X := by
  obtain ⟨r, I1, L1, rm1, e1, hrs, I2, L2, e2, hI2⟩ := hp I L rm hInv
  refine w_aload_n (q := 1279) (i := 1) (j := 1) hc dL_law_1278 rfl rfl rfl ?_
  refine w_lawA (x := ((r, I1, L1), rm1)) (q := 1282) (st := []) (args := []) (p := 0) e1 hc hX m_X7_classes dL_law_1279 ml_L_137 cf_X7_classes iv_X7_classes (k_0 hX.1) (C := RX7) (T := TX7) (N := 7) rfl rfl (by decide) rfl rfl (Nat.le_of_ble_eq_true rfl) ⟨Nat.le_of_ble_eq_true rfl, Nat.le_of_ble_eq_true rfl⟩ rfl rfl (hrs.le hrm) hcb hsb rfl (fun G hc hX => ?_)
  show WW G 1282 [(0, .ref 4000000), (1, .ref 0), (2, .ref 43), (3, .int x3)] [.int r] I1 L1 X
  refine w_aload_n (q := 1283) (i := 2) (j := 2) hc dL_law_1282 rfl rfl rfl ?_
  refine w_lawV (x := (r, I2, L2)) (q := 1286) (st := [.int r]) (args := []) (p := 43) e2 hc (m_X8_classes hX.1 hX.2.1) dL_law_1283 ml_L_140 cf_X8_classes iv_X8_classes (k_43 hX.1) (C := RX8) (T := TX8) (N := 45) rfl rfl (by decide) rfl rfl (Nat.le_of_ble_eq_true rfl) ⟨Nat.le_of_ble_eq_true rfl, Nat.le_of_ble_eq_true rfl⟩ rfl ?_
  show WW G 1286 [(0, .ref 4000000), (1, .ref 0), (2, .ref 43), (3, .int x3)] [.int r, .int r] I2 L2 X
  refine w_icmpeqT (tgt := 2377) hc dL_law_1286 rfl ?_
  exact kk G rm1 _ _ I2 L2 hc hX hI2 hrs rfl rfl
/-- alike -/
def PR_29 (Inv : MI → ML → Nat → Prop) : Prop := ∀ (I : MI) (L : ML) (rm : Nat) (a0 : Int64), Inv I L rm → ∃ (r : Int32) (I1 : MI) (L1 : ML) (rm1 : Nat), f_X7_alike rm a0 I L = some ((r, I1, L1), rm1) ∧ RS rm rm1 ∧ ∃ (I2 : MI) (L2 : ML), f_X8_alike a0 I1 L1 = some (r, I2, L2) ∧ Inv I2 L2 rm1
set_option maxRecDepth 100000 in
set_option maxHeartbeats 4000000 in
theorem lc_29 {G : GT Unit} {b Ls rm c s : Nat} {xs : Nat → Int32} {x3 : Int32} {I : MI} {L : ML} {X : Option Unit} {Inv : MI → ML → Nat → Prop} (hp : PR_29 Inv) (hc : Cx G code RL ret 14 552) (hX : LX G b Ls xs rm c s) (h1 : vp_in (x3 + 1) Ls) (h2 : vp_in (x3 + 2) Ls) (h3 : vp_in (x3 + 3) Ls) (h4 : vp_in (x3 + 4) Ls) (h5 : vp_in (x3 + 5) Ls) (hInv : Inv I L rm) (hrm : rm ≤ 5040) (hcb : c + 20 ≤ 600000) (hsb : s + 90748 ≤ 7302250)
    (kk : ∀ (G : GT Unit) (rm1 c1 s1 : Nat) (I2 : MI) (L2 : ML), Cx G code RL ret 14 552 → LX G b Ls xs rm1 c1 s1 → Inv I2 L2 rm1 → RS rm rm1 → c1 = c + mcA rm rm1 → s1 = s + msA rm rm1 → WW G 2377 [(0, .ref 4000000), (1, .ref 0), (2, .ref 43), (3, .int x3)] [] I2 L2 X) : WW G 1291 [(0, .ref 4000000), (1, .ref 0), (2, .ref 43), (3, .int x3)] [] I L X := by
  obtain ⟨r, I1, L1, rm1, e1, hrs, I2, L2, e2, hI2⟩ := hp I L rm ((lshl (Int32.toInt64 (xs (ix (x3 + 1)))) 32) ||| ((Int32.toInt64 (xs (ix (x3 + 2)))) &&& 4294967295)) hInv
  refine w_aload_n (q := 1292) (i := 1) (j := 1) hc dL_law_1291 rfl rfl rfl ?_
  refine w_aload_n (q := 1293) (i := 0) (j := 0) hc dL_law_1292 rfl rfl rfl ?_
  refine w_iload_n (q := 1294) (i := 3) (j := 3) hc dL_law_1293 rfl rfl rfl ?_
  refine w_iconst (q := 1295) hc dL_law_1294 ci_1 rfl ?_
  refine w_iadd (q := 1296) hc dL_law_1295 rfl ?_
  refine w_sld4 (q := 1297) hc hX dL_law_1296 h1 rfl ?_
  refine w_i2l (q := 1298) hc dL_law_1297 rfl ?_
  refine w_bipush (q := 1300) hc dL_law_1298 cb_32 rfl ?_
  refine w_lshl (q := 1301) hc dL_law_1300 rfl ?_
  refine w_aload_n (q := 1302) (i := 0) (j := 0) hc dL_law_1301 rfl rfl rfl ?_
  refine w_iload_n (q := 1303) (i := 3) (j := 3) hc dL_law_1302 rfl rfl rfl ?_
  refine w_iconst (q := 1304) hc dL_law_1303 ci_2 rfl ?_
  refine w_iadd (q := 1305) hc dL_law_1304 rfl ?_
  refine w_sld4 (q := 1306) hc hX dL_law_1305 h2 rfl ?_
  refine w_i2l (q := 1307) hc dL_law_1306 rfl ?_
  refine w_ldc2 (q := 1310) hc dL_law_1307 kl_L_46 rfl ?_
  refine w_land (q := 1311) hc dL_law_1310 rfl ?_
  refine w_lor (q := 1312) hc dL_law_1311 rfl ?_
  refine w_lawA (x := ((r, I1, L1), rm1)) (q := 1315) (st := []) (args := [.long ((lshl (Int32.toInt64 (xs (ix (x3 + 1)))) 32) ||| ((Int32.toInt64 (xs (ix (x3 + 2)))) &&& 4294967295))]) (p := 0) e1 hc hX m_X7_alike dL_law_1312 ml_L_141 cf_X7_alike iv_X7_alike (k_0 hX.1) (C := RX7) (T := TX7) (N := 7) rfl rfl (by decide) rfl rfl (Nat.le_of_ble_eq_true rfl) ⟨Nat.le_of_ble_eq_true rfl, Nat.le_of_ble_eq_true rfl⟩ rfl rfl (hrs.le hrm) hcb hsb rfl (fun G hc hX => ?_)
  show WW G 1315 [(0, .ref 4000000), (1, .ref 0), (2, .ref 43), (3, .int x3)] [.int r] I1 L1 X
  refine w_aload_n (q := 1316) (i := 2) (j := 2) hc dL_law_1315 rfl rfl rfl ?_
  refine w_aload_n (q := 1317) (i := 0) (j := 0) hc dL_law_1316 rfl rfl rfl ?_
  refine w_iload_n (q := 1318) (i := 3) (j := 3) hc dL_law_1317 rfl rfl rfl ?_
  refine w_iconst (q := 1319) hc dL_law_1318 ci_1 rfl ?_
  refine w_iadd (q := 1320) hc dL_law_1319 rfl ?_
  refine w_sld4 (q := 1321) hc hX dL_law_1320 h1 rfl ?_
  refine w_i2l (q := 1322) hc dL_law_1321 rfl ?_
  refine w_bipush (q := 1324) hc dL_law_1322 cb_32 rfl ?_
  refine w_lshl (q := 1325) hc dL_law_1324 rfl ?_
  refine w_aload_n (q := 1326) (i := 0) (j := 0) hc dL_law_1325 rfl rfl rfl ?_
  refine w_iload_n (q := 1327) (i := 3) (j := 3) hc dL_law_1326 rfl rfl rfl ?_
  refine w_iconst (q := 1328) hc dL_law_1327 ci_2 rfl ?_
  refine w_iadd (q := 1329) hc dL_law_1328 rfl ?_
  refine w_sld4 (q := 1330) hc hX dL_law_1329 h2 rfl ?_
  refine w_i2l (q := 1331) hc dL_law_1330 rfl ?_
  refine w_ldc2 (q := 1334) hc dL_law_1331 kl_L_46 rfl ?_
  refine w_land (q := 1335) hc dL_law_1334 rfl ?_
  refine w_lor (q := 1336) hc dL_law_1335 rfl ?_
  refine w_lawV (x := (r, I2, L2)) (q := 1339) (st := [.int r]) (args := [.long ((lshl (Int32.toInt64 (xs (ix (x3 + 1)))) 32) ||| ((Int32.toInt64 (xs (ix (x3 + 2)))) &&& 4294967295))]) (p := 43) e2 hc (m_X8_alike hX.1 hX.2.1) dL_law_1336 ml_L_144 cf_X8_alike iv_X8_alike (k_43 hX.1) (C := RX8) (T := TX8) (N := 45) rfl rfl (by decide) rfl rfl (Nat.le_of_ble_eq_true rfl) ⟨Nat.le_of_ble_eq_true rfl, Nat.le_of_ble_eq_true rfl⟩ rfl ?_
  show WW G 1339 [(0, .ref 4000000), (1, .ref 0), (2, .ref 43), (3, .int x3)] [.int r, .int r] I2 L2 X
  refine w_icmpeqT (tgt := 2377) hc dL_law_1339 rfl ?_
  exact kk G rm1 _ _ I2 L2 hc hX hI2 hrs rfl rfl
/-- derived -/
def PR_30 (Inv : MI → ML → Nat → Prop) : Prop := ∀ (I : MI) (L : ML) (rm : Nat) (a0 : Int32), Inv I L rm → ∃ (r : Int32) (I1 : MI) (L1 : ML), f_X7_derived a0 I L = some (r, I1, L1) ∧ ∃ (I2 : MI) (L2 : ML), f_X8_derived a0 I1 L1 = some (r, I2, L2) ∧ Inv I2 L2 rm
set_option maxRecDepth 100000 in
set_option maxHeartbeats 4000000 in
theorem lc_30 {G : GT Unit} {b Ls rm c s : Nat} {xs : Nat → Int32} {x3 : Int32} {I : MI} {L : ML} {X : Option Unit} {Inv : MI → ML → Nat → Prop} (hp : PR_30 Inv) (hc : Cx G code RL ret 14 552) (hX : LX G b Ls xs rm c s) (h1 : vp_in (x3 + 1) Ls) (h2 : vp_in (x3 + 2) Ls) (h3 : vp_in (x3 + 3) Ls) (h4 : vp_in (x3 + 4) Ls) (h5 : vp_in (x3 + 5) Ls) (hInv : Inv I L rm) (hrm : rm ≤ 5040) (hcb : c + 20 ≤ 600000) (hsb : s + 90748 ≤ 7302250)
    (kk : ∀ (G : GT Unit) (rm1 c1 s1 : Nat) (I2 : MI) (L2 : ML), Cx G code RL ret 14 552 → LX G b Ls xs rm1 c1 s1 → Inv I2 L2 rm1 → RS rm rm1 → c1 = c + mcA rm rm1 → s1 = s + msA rm rm1 → WW G 2377 [(0, .ref 4000000), (1, .ref 0), (2, .ref 43), (3, .int x3)] [] I2 L2 X) : WW G 1344 [(0, .ref 4000000), (1, .ref 0), (2, .ref 43), (3, .int x3)] [] I L X := by
  obtain ⟨r, I1, L1, e1, I2, L2, e2, hI2⟩ := hp I L rm (xs (ix (x3 + 1))) hInv
  refine w_aload_n (q := 1345) (i := 1) (j := 1) hc dL_law_1344 rfl rfl rfl ?_
  refine w_aload_n (q := 1346) (i := 0) (j := 0) hc dL_law_1345 rfl rfl rfl ?_
  refine w_iload_n (q := 1347) (i := 3) (j := 3) hc dL_law_1346 rfl rfl rfl ?_
  refine w_iconst (q := 1348) hc dL_law_1347 ci_1 rfl ?_
  refine w_iadd (q := 1349) hc dL_law_1348 rfl ?_
  refine w_sld4 (q := 1350) hc hX dL_law_1349 h1 rfl ?_
  refine w_lawV (x := (r, I1, L1)) (q := 1353) (st := []) (args := [.int (xs (ix (x3 + 1)))]) (p := 0) e1 hc (m_X7_derived hX.1 hX.2.1) dL_law_1350 ml_L_145 cf_X7_derived iv_X7_derived (k_0 hX.1) (C := RX7) (T := TX7) (N := 7) rfl rfl (by decide) rfl rfl (Nat.le_of_ble_eq_true rfl) ⟨Nat.le_of_ble_eq_true rfl, Nat.le_of_ble_eq_true rfl⟩ rfl ?_
  show WW G 1353 [(0, .ref 4000000), (1, .ref 0), (2, .ref 43), (3, .int x3)] [.int r] I1 L1 X
  refine w_aload_n (q := 1354) (i := 2) (j := 2) hc dL_law_1353 rfl rfl rfl ?_
  refine w_aload_n (q := 1355) (i := 0) (j := 0) hc dL_law_1354 rfl rfl rfl ?_
  refine w_iload_n (q := 1356) (i := 3) (j := 3) hc dL_law_1355 rfl rfl rfl ?_
  refine w_iconst (q := 1357) hc dL_law_1356 ci_1 rfl ?_
  refine w_iadd (q := 1358) hc dL_law_1357 rfl ?_
  refine w_sld4 (q := 1359) hc hX dL_law_1358 h1 rfl ?_
  refine w_lawV (x := (r, I2, L2)) (q := 1362) (st := [.int r]) (args := [.int (xs (ix (x3 + 1)))]) (p := 43) e2 hc (m_X8_derived hX.1 hX.2.1) dL_law_1359 ml_L_148 cf_X8_derived iv_X8_derived (k_43 hX.1) (C := RX8) (T := TX8) (N := 45) rfl rfl (by decide) rfl rfl (Nat.le_of_ble_eq_true rfl) ⟨Nat.le_of_ble_eq_true rfl, Nat.le_of_ble_eq_true rfl⟩ rfl ?_
  show WW G 1362 [(0, .ref 4000000), (1, .ref 0), (2, .ref 43), (3, .int x3)] [.int r, .int r] I2 L2 X
  refine w_icmpeqT (tgt := 2377) hc dL_law_1362 rfl ?_
  exact kk G rm c s I2 L2 hc hX hI2 (Or.inl rfl) (by rw [mcA_0]; rfl) (by rw [msA_0]; rfl)
/-- has -/
def PR_31 (Inv : MI → ML → Nat → Prop) : Prop := ∀ (I : MI) (L : ML) (rm : Nat) (a0 : Int32), Inv I L rm → ∃ (r : Int32) (I1 : MI) (L1 : ML), f_X7_has a0 I L = some (r, I1, L1) ∧ ∃ (I2 : MI) (L2 : ML), f_X8_has a0 I1 L1 = some (r, I2, L2) ∧ Inv I2 L2 rm
set_option maxRecDepth 100000 in
set_option maxHeartbeats 4000000 in
theorem lc_31 {G : GT Unit} {b Ls rm c s : Nat} {xs : Nat → Int32} {x3 : Int32} {I : MI} {L : ML} {X : Option Unit} {Inv : MI → ML → Nat → Prop} (hp : PR_31 Inv) (hc : Cx G code RL ret 14 552) (hX : LX G b Ls xs rm c s) (h1 : vp_in (x3 + 1) Ls) (h2 : vp_in (x3 + 2) Ls) (h3 : vp_in (x3 + 3) Ls) (h4 : vp_in (x3 + 4) Ls) (h5 : vp_in (x3 + 5) Ls) (hInv : Inv I L rm) (hrm : rm ≤ 5040) (hcb : c + 20 ≤ 600000) (hsb : s + 90748 ≤ 7302250)
    (kk : ∀ (G : GT Unit) (rm1 c1 s1 : Nat) (I2 : MI) (L2 : ML), Cx G code RL ret 14 552 → LX G b Ls xs rm1 c1 s1 → Inv I2 L2 rm1 → RS rm rm1 → c1 = c + mcA rm rm1 → s1 = s + msA rm rm1 → WW G 2377 [(0, .ref 4000000), (1, .ref 0), (2, .ref 43), (3, .int x3)] [] I2 L2 X) : WW G 1367 [(0, .ref 4000000), (1, .ref 0), (2, .ref 43), (3, .int x3)] [] I L X := by
  obtain ⟨r, I1, L1, e1, I2, L2, e2, hI2⟩ := hp I L rm (xs (ix (x3 + 1))) hInv
  refine w_aload_n (q := 1368) (i := 1) (j := 1) hc dL_law_1367 rfl rfl rfl ?_
  refine w_aload_n (q := 1369) (i := 0) (j := 0) hc dL_law_1368 rfl rfl rfl ?_
  refine w_iload_n (q := 1370) (i := 3) (j := 3) hc dL_law_1369 rfl rfl rfl ?_
  refine w_iconst (q := 1371) hc dL_law_1370 ci_1 rfl ?_
  refine w_iadd (q := 1372) hc dL_law_1371 rfl ?_
  refine w_sld4 (q := 1373) hc hX dL_law_1372 h1 rfl ?_
  refine w_lawV (x := (r, I1, L1)) (q := 1376) (st := []) (args := [.int (xs (ix (x3 + 1)))]) (p := 0) e1 hc (m_X7_has hX.1 hX.2.1) dL_law_1373 ml_L_149 cf_X7_has iv_X7_has (k_0 hX.1) (C := RX7) (T := TX7) (N := 7) rfl rfl (by decide) rfl rfl (Nat.le_of_ble_eq_true rfl) ⟨Nat.le_of_ble_eq_true rfl, Nat.le_of_ble_eq_true rfl⟩ rfl ?_
  show WW G 1376 [(0, .ref 4000000), (1, .ref 0), (2, .ref 43), (3, .int x3)] [.int r] I1 L1 X
  refine w_aload_n (q := 1377) (i := 2) (j := 2) hc dL_law_1376 rfl rfl rfl ?_
  refine w_aload_n (q := 1378) (i := 0) (j := 0) hc dL_law_1377 rfl rfl rfl ?_
  refine w_iload_n (q := 1379) (i := 3) (j := 3) hc dL_law_1378 rfl rfl rfl ?_
  refine w_iconst (q := 1380) hc dL_law_1379 ci_1 rfl ?_
  refine w_iadd (q := 1381) hc dL_law_1380 rfl ?_
  refine w_sld4 (q := 1382) hc hX dL_law_1381 h1 rfl ?_
  refine w_lawV (x := (r, I2, L2)) (q := 1385) (st := [.int r]) (args := [.int (xs (ix (x3 + 1)))]) (p := 43) e2 hc (m_X8_has hX.1 hX.2.1) dL_law_1382 ml_L_152 cf_X8_has iv_X8_has (k_43 hX.1) (C := RX8) (T := TX8) (N := 45) rfl rfl (by decide) rfl rfl (Nat.le_of_ble_eq_true rfl) ⟨Nat.le_of_ble_eq_true rfl, Nat.le_of_ble_eq_true rfl⟩ rfl ?_
  show WW G 1385 [(0, .ref 4000000), (1, .ref 0), (2, .ref 43), (3, .int x3)] [.int r, .int r] I2 L2 X
  refine w_icmpeqT (tgt := 2377) hc dL_law_1385 rfl ?_
  exact kk G rm c s I2 L2 hc hX hI2 (Or.inl rfl) (by rw [mcA_0]; rfl) (by rw [msA_0]; rfl)
/-- commutator -/
def PR_32 (Inv : MI → ML → Nat → Prop) : Prop := ∀ (I : MI) (L : ML) (rm : Nat) (a0 : Int64) (a1 : Int64), Inv I L rm → ∃ (r : Int64) (I1 : MI) (L1 : ML), f_X7_commutator a0 a1 I L = some (r, I1, L1) ∧ ∃ (I2 : MI) (L2 : ML), f_X8_commutator a0 a1 I1 L1 = some (r, I2, L2) ∧ Inv I2 L2 rm
set_option maxRecDepth 100000 in
set_option maxHeartbeats 4000000 in
theorem lc_32 {G : GT Unit} {b Ls rm c s : Nat} {xs : Nat → Int32} {x3 : Int32} {I : MI} {L : ML} {X : Option Unit} {Inv : MI → ML → Nat → Prop} (hp : PR_32 Inv) (hc : Cx G code RL ret 14 552) (hX : LX G b Ls xs rm c s) (h1 : vp_in (x3 + 1) Ls) (h2 : vp_in (x3 + 2) Ls) (h3 : vp_in (x3 + 3) Ls) (h4 : vp_in (x3 + 4) Ls) (h5 : vp_in (x3 + 5) Ls) (hInv : Inv I L rm) (hrm : rm ≤ 5040) (hcb : c + 20 ≤ 600000) (hsb : s + 90748 ≤ 7302250)
    (kk : ∀ (G : GT Unit) (rm1 c1 s1 : Nat) (I2 : MI) (L2 : ML), Cx G code RL ret 14 552 → LX G b Ls xs rm1 c1 s1 → Inv I2 L2 rm1 → RS rm rm1 → c1 = c + mcA rm rm1 → s1 = s + msA rm rm1 → WW G 2377 [(0, .ref 4000000), (1, .ref 0), (2, .ref 43), (3, .int x3)] [] I2 L2 X) : WW G 1390 [(0, .ref 4000000), (1, .ref 0), (2, .ref 43), (3, .int x3)] [] I L X := by
  obtain ⟨r, I1, L1, e1, I2, L2, e2, hI2⟩ := hp I L rm ((lshl (Int32.toInt64 (xs (ix (x3 + 1)))) 32) ||| ((Int32.toInt64 (xs (ix (x3 + 2)))) &&& 4294967295)) ((lshl (Int32.toInt64 (xs (ix (x3 + 3)))) 32) ||| ((Int32.toInt64 (xs (ix (x3 + 4)))) &&& 4294967295)) hInv
  refine w_aload_n (q := 1391) (i := 1) (j := 1) hc dL_law_1390 rfl rfl rfl ?_
  refine w_aload_n (q := 1392) (i := 0) (j := 0) hc dL_law_1391 rfl rfl rfl ?_
  refine w_iload_n (q := 1393) (i := 3) (j := 3) hc dL_law_1392 rfl rfl rfl ?_
  refine w_iconst (q := 1394) hc dL_law_1393 ci_1 rfl ?_
  refine w_iadd (q := 1395) hc dL_law_1394 rfl ?_
  refine w_sld4 (q := 1396) hc hX dL_law_1395 h1 rfl ?_
  refine w_i2l (q := 1397) hc dL_law_1396 rfl ?_
  refine w_bipush (q := 1399) hc dL_law_1397 cb_32 rfl ?_
  refine w_lshl (q := 1400) hc dL_law_1399 rfl ?_
  refine w_aload_n (q := 1401) (i := 0) (j := 0) hc dL_law_1400 rfl rfl rfl ?_
  refine w_iload_n (q := 1402) (i := 3) (j := 3) hc dL_law_1401 rfl rfl rfl ?_
  refine w_iconst (q := 1403) hc dL_law_1402 ci_2 rfl ?_
  refine w_iadd (q := 1404) hc dL_law_1403 rfl ?_
  refine w_sld4 (q := 1405) hc hX dL_law_1404 h2 rfl ?_
  refine w_i2l (q := 1406) hc dL_law_1405 rfl ?_
  refine w_ldc2 (q := 1409) hc dL_law_1406 kl_L_46 rfl ?_
  refine w_land (q := 1410) hc dL_law_1409 rfl ?_
  refine w_lor (q := 1411) hc dL_law_1410 rfl ?_
  refine w_aload_n (q := 1412) (i := 0) (j := 0) hc dL_law_1411 rfl rfl rfl ?_
  refine w_iload_n (q := 1413) (i := 3) (j := 3) hc dL_law_1412 rfl rfl rfl ?_
  refine w_iconst (q := 1414) hc dL_law_1413 ci_3 rfl ?_
  refine w_iadd (q := 1415) hc dL_law_1414 rfl ?_
  refine w_sld4 (q := 1416) hc hX dL_law_1415 h3 rfl ?_
  refine w_i2l (q := 1417) hc dL_law_1416 rfl ?_
  refine w_bipush (q := 1419) hc dL_law_1417 cb_32 rfl ?_
  refine w_lshl (q := 1420) hc dL_law_1419 rfl ?_
  refine w_aload_n (q := 1421) (i := 0) (j := 0) hc dL_law_1420 rfl rfl rfl ?_
  refine w_iload_n (q := 1422) (i := 3) (j := 3) hc dL_law_1421 rfl rfl rfl ?_
  refine w_iconst (q := 1423) hc dL_law_1422 ci_4 rfl ?_
  refine w_iadd (q := 1424) hc dL_law_1423 rfl ?_
  refine w_sld4 (q := 1425) hc hX dL_law_1424 h4 rfl ?_
  refine w_i2l (q := 1426) hc dL_law_1425 rfl ?_
  refine w_ldc2 (q := 1429) hc dL_law_1426 kl_L_46 rfl ?_
  refine w_land (q := 1430) hc dL_law_1429 rfl ?_
  refine w_lor (q := 1431) hc dL_law_1430 rfl ?_
  refine w_lawV (x := (r, I1, L1)) (q := 1434) (st := []) (args := [.long ((lshl (Int32.toInt64 (xs (ix (x3 + 1)))) 32) ||| ((Int32.toInt64 (xs (ix (x3 + 2)))) &&& 4294967295)), .long ((lshl (Int32.toInt64 (xs (ix (x3 + 3)))) 32) ||| ((Int32.toInt64 (xs (ix (x3 + 4)))) &&& 4294967295))]) (p := 0) e1 hc (m_X7_commutator hX.1 hX.2.1) dL_law_1431 ml_L_153 cf_X7_commutator iv_X7_commutator (k_0 hX.1) (C := RX7) (T := TX7) (N := 7) rfl rfl (by decide) rfl rfl (Nat.le_of_ble_eq_true rfl) ⟨Nat.le_of_ble_eq_true rfl, Nat.le_of_ble_eq_true rfl⟩ rfl ?_
  show WW G 1434 [(0, .ref 4000000), (1, .ref 0), (2, .ref 43), (3, .int x3)] [.long r] I1 L1 X
  refine w_aload_n (q := 1435) (i := 2) (j := 2) hc dL_law_1434 rfl rfl rfl ?_
  refine w_aload_n (q := 1436) (i := 0) (j := 0) hc dL_law_1435 rfl rfl rfl ?_
  refine w_iload_n (q := 1437) (i := 3) (j := 3) hc dL_law_1436 rfl rfl rfl ?_
  refine w_iconst (q := 1438) hc dL_law_1437 ci_1 rfl ?_
  refine w_iadd (q := 1439) hc dL_law_1438 rfl ?_
  refine w_sld4 (q := 1440) hc hX dL_law_1439 h1 rfl ?_
  refine w_i2l (q := 1441) hc dL_law_1440 rfl ?_
  refine w_bipush (q := 1443) hc dL_law_1441 cb_32 rfl ?_
  refine w_lshl (q := 1444) hc dL_law_1443 rfl ?_
  refine w_aload_n (q := 1445) (i := 0) (j := 0) hc dL_law_1444 rfl rfl rfl ?_
  refine w_iload_n (q := 1446) (i := 3) (j := 3) hc dL_law_1445 rfl rfl rfl ?_
  refine w_iconst (q := 1447) hc dL_law_1446 ci_2 rfl ?_
  refine w_iadd (q := 1448) hc dL_law_1447 rfl ?_
  refine w_sld4 (q := 1449) hc hX dL_law_1448 h2 rfl ?_
  refine w_i2l (q := 1450) hc dL_law_1449 rfl ?_
  refine w_ldc2 (q := 1453) hc dL_law_1450 kl_L_46 rfl ?_
  refine w_land (q := 1454) hc dL_law_1453 rfl ?_
  refine w_lor (q := 1455) hc dL_law_1454 rfl ?_
  refine w_aload_n (q := 1456) (i := 0) (j := 0) hc dL_law_1455 rfl rfl rfl ?_
  refine w_iload_n (q := 1457) (i := 3) (j := 3) hc dL_law_1456 rfl rfl rfl ?_
  refine w_iconst (q := 1458) hc dL_law_1457 ci_3 rfl ?_
  refine w_iadd (q := 1459) hc dL_law_1458 rfl ?_
  refine w_sld4 (q := 1460) hc hX dL_law_1459 h3 rfl ?_
  refine w_i2l (q := 1461) hc dL_law_1460 rfl ?_
  refine w_bipush (q := 1463) hc dL_law_1461 cb_32 rfl ?_
  refine w_lshl (q := 1464) hc dL_law_1463 rfl ?_
  refine w_aload_n (q := 1465) (i := 0) (j := 0) hc dL_law_1464 rfl rfl rfl ?_
  refine w_iload_n (q := 1466) (i := 3) (j := 3) hc dL_law_1465 rfl rfl rfl ?_
  refine w_iconst (q := 1467) hc dL_law_1466 ci_4 rfl ?_
  refine w_iadd (q := 1468) hc dL_law_1467 rfl ?_
  refine w_sld4 (q := 1469) hc hX dL_law_1468 h4 rfl ?_
  refine w_i2l (q := 1470) hc dL_law_1469 rfl ?_
  refine w_ldc2 (q := 1473) hc dL_law_1470 kl_L_46 rfl ?_
  refine w_land (q := 1474) hc dL_law_1473 rfl ?_
  refine w_lor (q := 1475) hc dL_law_1474 rfl ?_
  refine w_lawV (x := (r, I2, L2)) (q := 1478) (st := [.long r]) (args := [.long ((lshl (Int32.toInt64 (xs (ix (x3 + 1)))) 32) ||| ((Int32.toInt64 (xs (ix (x3 + 2)))) &&& 4294967295)), .long ((lshl (Int32.toInt64 (xs (ix (x3 + 3)))) 32) ||| ((Int32.toInt64 (xs (ix (x3 + 4)))) &&& 4294967295))]) (p := 43) e2 hc (m_X8_commutator hX.1 hX.2.1) dL_law_1475 ml_L_156 cf_X8_commutator iv_X8_commutator (k_43 hX.1) (C := RX8) (T := TX8) (N := 45) rfl rfl (by decide) rfl rfl (Nat.le_of_ble_eq_true rfl) ⟨Nat.le_of_ble_eq_true rfl, Nat.le_of_ble_eq_true rfl⟩ rfl ?_
  show WW G 1478 [(0, .ref 4000000), (1, .ref 0), (2, .ref 43), (3, .int x3)] [.long r, .long r] I2 L2 X
  refine w_lcmp (q := 1479) hc dL_law_1478 rfl ?_
  rw [lg_self]
  refine w_ifeqT (tgt := 2377) hc dL_law_1479 rfl rfl ?_
  exact kk G rm c s I2 L2 hc hX hI2 (Or.inl rfl) (by rw [mcA_0]; rfl) (by rw [msA_0]; rfl)
/-- turned -/
def PR_33 (Inv : MI → ML → Nat → Prop) : Prop := ∀ (I : MI) (L : ML) (rm : Nat) (a0 : Int64) (a1 : Int64), Inv I L rm → ∃ (r : Int64) (I1 : MI) (L1 : ML), f_X7_turned a0 a1 I L = some (r, I1, L1) ∧ ∃ (I2 : MI) (L2 : ML), f_X8_turned a0 a1 I1 L1 = some (r, I2, L2) ∧ Inv I2 L2 rm
set_option maxRecDepth 100000 in
set_option maxHeartbeats 4000000 in
theorem lc_33 {G : GT Unit} {b Ls rm c s : Nat} {xs : Nat → Int32} {x3 : Int32} {I : MI} {L : ML} {X : Option Unit} {Inv : MI → ML → Nat → Prop} (hp : PR_33 Inv) (hc : Cx G code RL ret 14 552) (hX : LX G b Ls xs rm c s) (h1 : vp_in (x3 + 1) Ls) (h2 : vp_in (x3 + 2) Ls) (h3 : vp_in (x3 + 3) Ls) (h4 : vp_in (x3 + 4) Ls) (h5 : vp_in (x3 + 5) Ls) (hInv : Inv I L rm) (hrm : rm ≤ 5040) (hcb : c + 20 ≤ 600000) (hsb : s + 90748 ≤ 7302250)
    (kk : ∀ (G : GT Unit) (rm1 c1 s1 : Nat) (I2 : MI) (L2 : ML), Cx G code RL ret 14 552 → LX G b Ls xs rm1 c1 s1 → Inv I2 L2 rm1 → RS rm rm1 → c1 = c + mcA rm rm1 → s1 = s + msA rm rm1 → WW G 2377 [(0, .ref 4000000), (1, .ref 0), (2, .ref 43), (3, .int x3)] [] I2 L2 X) : WW G 1484 [(0, .ref 4000000), (1, .ref 0), (2, .ref 43), (3, .int x3)] [] I L X := by
  obtain ⟨r, I1, L1, e1, I2, L2, e2, hI2⟩ := hp I L rm ((lshl (Int32.toInt64 (xs (ix (x3 + 1)))) 32) ||| ((Int32.toInt64 (xs (ix (x3 + 2)))) &&& 4294967295)) ((lshl (Int32.toInt64 (xs (ix (x3 + 3)))) 32) ||| ((Int32.toInt64 (xs (ix (x3 + 4)))) &&& 4294967295)) hInv
  refine w_aload_n (q := 1485) (i := 1) (j := 1) hc dL_law_1484 rfl rfl rfl ?_
  refine w_aload_n (q := 1486) (i := 0) (j := 0) hc dL_law_1485 rfl rfl rfl ?_
  refine w_iload_n (q := 1487) (i := 3) (j := 3) hc dL_law_1486 rfl rfl rfl ?_
  refine w_iconst (q := 1488) hc dL_law_1487 ci_1 rfl ?_
  refine w_iadd (q := 1489) hc dL_law_1488 rfl ?_
  refine w_sld4 (q := 1490) hc hX dL_law_1489 h1 rfl ?_
  refine w_i2l (q := 1491) hc dL_law_1490 rfl ?_
  refine w_bipush (q := 1493) hc dL_law_1491 cb_32 rfl ?_
  refine w_lshl (q := 1494) hc dL_law_1493 rfl ?_
  refine w_aload_n (q := 1495) (i := 0) (j := 0) hc dL_law_1494 rfl rfl rfl ?_
  refine w_iload_n (q := 1496) (i := 3) (j := 3) hc dL_law_1495 rfl rfl rfl ?_
  refine w_iconst (q := 1497) hc dL_law_1496 ci_2 rfl ?_
  refine w_iadd (q := 1498) hc dL_law_1497 rfl ?_
  refine w_sld4 (q := 1499) hc hX dL_law_1498 h2 rfl ?_
  refine w_i2l (q := 1500) hc dL_law_1499 rfl ?_
  refine w_ldc2 (q := 1503) hc dL_law_1500 kl_L_46 rfl ?_
  refine w_land (q := 1504) hc dL_law_1503 rfl ?_
  refine w_lor (q := 1505) hc dL_law_1504 rfl ?_
  refine w_aload_n (q := 1506) (i := 0) (j := 0) hc dL_law_1505 rfl rfl rfl ?_
  refine w_iload_n (q := 1507) (i := 3) (j := 3) hc dL_law_1506 rfl rfl rfl ?_
  refine w_iconst (q := 1508) hc dL_law_1507 ci_3 rfl ?_
  refine w_iadd (q := 1509) hc dL_law_1508 rfl ?_
  refine w_sld4 (q := 1510) hc hX dL_law_1509 h3 rfl ?_
  refine w_i2l (q := 1511) hc dL_law_1510 rfl ?_
  refine w_bipush (q := 1513) hc dL_law_1511 cb_32 rfl ?_
  refine w_lshl (q := 1514) hc dL_law_1513 rfl ?_
  refine w_aload_n (q := 1515) (i := 0) (j := 0) hc dL_law_1514 rfl rfl rfl ?_
  refine w_iload_n (q := 1516) (i := 3) (j := 3) hc dL_law_1515 rfl rfl rfl ?_
  refine w_iconst (q := 1517) hc dL_law_1516 ci_4 rfl ?_
  refine w_iadd (q := 1518) hc dL_law_1517 rfl ?_
  refine w_sld4 (q := 1519) hc hX dL_law_1518 h4 rfl ?_
  refine w_i2l (q := 1520) hc dL_law_1519 rfl ?_
  refine w_ldc2 (q := 1523) hc dL_law_1520 kl_L_46 rfl ?_
  refine w_land (q := 1524) hc dL_law_1523 rfl ?_
  refine w_lor (q := 1525) hc dL_law_1524 rfl ?_
  refine w_lawV (x := (r, I1, L1)) (q := 1528) (st := []) (args := [.long ((lshl (Int32.toInt64 (xs (ix (x3 + 1)))) 32) ||| ((Int32.toInt64 (xs (ix (x3 + 2)))) &&& 4294967295)), .long ((lshl (Int32.toInt64 (xs (ix (x3 + 3)))) 32) ||| ((Int32.toInt64 (xs (ix (x3 + 4)))) &&& 4294967295))]) (p := 0) e1 hc (m_X7_turned hX.1 hX.2.1) dL_law_1525 ml_L_157 cf_X7_turned iv_X7_turned (k_0 hX.1) (C := RX7) (T := TX7) (N := 7) rfl rfl (by decide) rfl rfl (Nat.le_of_ble_eq_true rfl) ⟨Nat.le_of_ble_eq_true rfl, Nat.le_of_ble_eq_true rfl⟩ rfl ?_
  show WW G 1528 [(0, .ref 4000000), (1, .ref 0), (2, .ref 43), (3, .int x3)] [.long r] I1 L1 X
  refine w_aload_n (q := 1529) (i := 2) (j := 2) hc dL_law_1528 rfl rfl rfl ?_
  refine w_aload_n (q := 1530) (i := 0) (j := 0) hc dL_law_1529 rfl rfl rfl ?_
  refine w_iload_n (q := 1531) (i := 3) (j := 3) hc dL_law_1530 rfl rfl rfl ?_
  refine w_iconst (q := 1532) hc dL_law_1531 ci_1 rfl ?_
  refine w_iadd (q := 1533) hc dL_law_1532 rfl ?_
  refine w_sld4 (q := 1534) hc hX dL_law_1533 h1 rfl ?_
  refine w_i2l (q := 1535) hc dL_law_1534 rfl ?_
  refine w_bipush (q := 1537) hc dL_law_1535 cb_32 rfl ?_
  refine w_lshl (q := 1538) hc dL_law_1537 rfl ?_
  refine w_aload_n (q := 1539) (i := 0) (j := 0) hc dL_law_1538 rfl rfl rfl ?_
  refine w_iload_n (q := 1540) (i := 3) (j := 3) hc dL_law_1539 rfl rfl rfl ?_
  refine w_iconst (q := 1541) hc dL_law_1540 ci_2 rfl ?_
  refine w_iadd (q := 1542) hc dL_law_1541 rfl ?_
  refine w_sld4 (q := 1543) hc hX dL_law_1542 h2 rfl ?_
  refine w_i2l (q := 1544) hc dL_law_1543 rfl ?_
  refine w_ldc2 (q := 1547) hc dL_law_1544 kl_L_46 rfl ?_
  refine w_land (q := 1548) hc dL_law_1547 rfl ?_
  refine w_lor (q := 1549) hc dL_law_1548 rfl ?_
  refine w_aload_n (q := 1550) (i := 0) (j := 0) hc dL_law_1549 rfl rfl rfl ?_
  refine w_iload_n (q := 1551) (i := 3) (j := 3) hc dL_law_1550 rfl rfl rfl ?_
  refine w_iconst (q := 1552) hc dL_law_1551 ci_3 rfl ?_
  refine w_iadd (q := 1553) hc dL_law_1552 rfl ?_
  refine w_sld4 (q := 1554) hc hX dL_law_1553 h3 rfl ?_
  refine w_i2l (q := 1555) hc dL_law_1554 rfl ?_
  refine w_bipush (q := 1557) hc dL_law_1555 cb_32 rfl ?_
  refine w_lshl (q := 1558) hc dL_law_1557 rfl ?_
  refine w_aload_n (q := 1559) (i := 0) (j := 0) hc dL_law_1558 rfl rfl rfl ?_
  refine w_iload_n (q := 1560) (i := 3) (j := 3) hc dL_law_1559 rfl rfl rfl ?_
  refine w_iconst (q := 1561) hc dL_law_1560 ci_4 rfl ?_
  refine w_iadd (q := 1562) hc dL_law_1561 rfl ?_
  refine w_sld4 (q := 1563) hc hX dL_law_1562 h4 rfl ?_
  refine w_i2l (q := 1564) hc dL_law_1563 rfl ?_
  refine w_ldc2 (q := 1567) hc dL_law_1564 kl_L_46 rfl ?_
  refine w_land (q := 1568) hc dL_law_1567 rfl ?_
  refine w_lor (q := 1569) hc dL_law_1568 rfl ?_
  refine w_lawV (x := (r, I2, L2)) (q := 1572) (st := [.long r]) (args := [.long ((lshl (Int32.toInt64 (xs (ix (x3 + 1)))) 32) ||| ((Int32.toInt64 (xs (ix (x3 + 2)))) &&& 4294967295)), .long ((lshl (Int32.toInt64 (xs (ix (x3 + 3)))) 32) ||| ((Int32.toInt64 (xs (ix (x3 + 4)))) &&& 4294967295))]) (p := 43) e2 hc (m_X8_turned hX.1 hX.2.1) dL_law_1569 ml_L_160 cf_X8_turned iv_X8_turned (k_43 hX.1) (C := RX8) (T := TX8) (N := 45) rfl rfl (by decide) rfl rfl (Nat.le_of_ble_eq_true rfl) ⟨Nat.le_of_ble_eq_true rfl, Nat.le_of_ble_eq_true rfl⟩ rfl ?_
  show WW G 1572 [(0, .ref 4000000), (1, .ref 0), (2, .ref 43), (3, .int x3)] [.long r, .long r] I2 L2 X
  refine w_lcmp (q := 1573) hc dL_law_1572 rfl ?_
  rw [lg_self]
  refine w_ifeqT (tgt := 2377) hc dL_law_1573 rfl rfl ?_
  exact kk G rm c s I2 L2 hc hX hI2 (Or.inl rfl) (by rw [mcA_0]; rfl) (by rw [msA_0]; rfl)
/-- same -/
def PR_34 (Inv : MI → ML → Nat → Prop) : Prop := ∀ (I : MI) (L : ML) (rm : Nat) (a0 : Int64) (a1 : Int64), Inv I L rm → ∃ (r : Int32) (I1 : MI) (L1 : ML) (rm1 : Nat), f_X7_same rm a0 a1 I L = some ((r, I1, L1), rm1) ∧ RS rm rm1 ∧ ∃ (I2 : MI) (L2 : ML), f_X8_same a0 a1 I1 L1 = some (r, I2, L2) ∧ Inv I2 L2 rm1
set_option maxRecDepth 100000 in
set_option maxHeartbeats 4000000 in
theorem lc_34 {G : GT Unit} {b Ls rm c s : Nat} {xs : Nat → Int32} {x3 : Int32} {I : MI} {L : ML} {X : Option Unit} {Inv : MI → ML → Nat → Prop} (hp : PR_34 Inv) (hc : Cx G code RL ret 14 552) (hX : LX G b Ls xs rm c s) (h1 : vp_in (x3 + 1) Ls) (h2 : vp_in (x3 + 2) Ls) (h3 : vp_in (x3 + 3) Ls) (h4 : vp_in (x3 + 4) Ls) (h5 : vp_in (x3 + 5) Ls) (hInv : Inv I L rm) (hrm : rm ≤ 5040) (hcb : c + 20 ≤ 600000) (hsb : s + 90748 ≤ 7302250)
    (kk : ∀ (G : GT Unit) (rm1 c1 s1 : Nat) (I2 : MI) (L2 : ML), Cx G code RL ret 14 552 → LX G b Ls xs rm1 c1 s1 → Inv I2 L2 rm1 → RS rm rm1 → c1 = c + mcA rm rm1 → s1 = s + msA rm rm1 → WW G 2377 [(0, .ref 4000000), (1, .ref 0), (2, .ref 43), (3, .int x3)] [] I2 L2 X) : WW G 1578 [(0, .ref 4000000), (1, .ref 0), (2, .ref 43), (3, .int x3)] [] I L X := by
  obtain ⟨r, I1, L1, rm1, e1, hrs, I2, L2, e2, hI2⟩ := hp I L rm ((lshl (Int32.toInt64 (xs (ix (x3 + 1)))) 32) ||| ((Int32.toInt64 (xs (ix (x3 + 2)))) &&& 4294967295)) ((lshl (Int32.toInt64 (xs (ix (x3 + 3)))) 32) ||| ((Int32.toInt64 (xs (ix (x3 + 4)))) &&& 4294967295)) hInv
  refine w_aload_n (q := 1579) (i := 1) (j := 1) hc dL_law_1578 rfl rfl rfl ?_
  refine w_aload_n (q := 1580) (i := 0) (j := 0) hc dL_law_1579 rfl rfl rfl ?_
  refine w_iload_n (q := 1581) (i := 3) (j := 3) hc dL_law_1580 rfl rfl rfl ?_
  refine w_iconst (q := 1582) hc dL_law_1581 ci_1 rfl ?_
  refine w_iadd (q := 1583) hc dL_law_1582 rfl ?_
  refine w_sld4 (q := 1584) hc hX dL_law_1583 h1 rfl ?_
  refine w_i2l (q := 1585) hc dL_law_1584 rfl ?_
  refine w_bipush (q := 1587) hc dL_law_1585 cb_32 rfl ?_
  refine w_lshl (q := 1588) hc dL_law_1587 rfl ?_
  refine w_aload_n (q := 1589) (i := 0) (j := 0) hc dL_law_1588 rfl rfl rfl ?_
  refine w_iload_n (q := 1590) (i := 3) (j := 3) hc dL_law_1589 rfl rfl rfl ?_
  refine w_iconst (q := 1591) hc dL_law_1590 ci_2 rfl ?_
  refine w_iadd (q := 1592) hc dL_law_1591 rfl ?_
  refine w_sld4 (q := 1593) hc hX dL_law_1592 h2 rfl ?_
  refine w_i2l (q := 1594) hc dL_law_1593 rfl ?_
  refine w_ldc2 (q := 1597) hc dL_law_1594 kl_L_46 rfl ?_
  refine w_land (q := 1598) hc dL_law_1597 rfl ?_
  refine w_lor (q := 1599) hc dL_law_1598 rfl ?_
  refine w_aload_n (q := 1600) (i := 0) (j := 0) hc dL_law_1599 rfl rfl rfl ?_
  refine w_iload_n (q := 1601) (i := 3) (j := 3) hc dL_law_1600 rfl rfl rfl ?_
  refine w_iconst (q := 1602) hc dL_law_1601 ci_3 rfl ?_
  refine w_iadd (q := 1603) hc dL_law_1602 rfl ?_
  refine w_sld4 (q := 1604) hc hX dL_law_1603 h3 rfl ?_
  refine w_i2l (q := 1605) hc dL_law_1604 rfl ?_
  refine w_bipush (q := 1607) hc dL_law_1605 cb_32 rfl ?_
  refine w_lshl (q := 1608) hc dL_law_1607 rfl ?_
  refine w_aload_n (q := 1609) (i := 0) (j := 0) hc dL_law_1608 rfl rfl rfl ?_
  refine w_iload_n (q := 1610) (i := 3) (j := 3) hc dL_law_1609 rfl rfl rfl ?_
  refine w_iconst (q := 1611) hc dL_law_1610 ci_4 rfl ?_
  refine w_iadd (q := 1612) hc dL_law_1611 rfl ?_
  refine w_sld4 (q := 1613) hc hX dL_law_1612 h4 rfl ?_
  refine w_i2l (q := 1614) hc dL_law_1613 rfl ?_
  refine w_ldc2 (q := 1617) hc dL_law_1614 kl_L_46 rfl ?_
  refine w_land (q := 1618) hc dL_law_1617 rfl ?_
  refine w_lor (q := 1619) hc dL_law_1618 rfl ?_
  refine w_lawA (x := ((r, I1, L1), rm1)) (q := 1622) (st := []) (args := [.long ((lshl (Int32.toInt64 (xs (ix (x3 + 1)))) 32) ||| ((Int32.toInt64 (xs (ix (x3 + 2)))) &&& 4294967295)), .long ((lshl (Int32.toInt64 (xs (ix (x3 + 3)))) 32) ||| ((Int32.toInt64 (xs (ix (x3 + 4)))) &&& 4294967295))]) (p := 0) e1 hc hX m_X7_same dL_law_1619 ml_L_161 cf_X7_same iv_X7_same (k_0 hX.1) (C := RX7) (T := TX7) (N := 7) rfl rfl (by decide) rfl rfl (Nat.le_of_ble_eq_true rfl) ⟨Nat.le_of_ble_eq_true rfl, Nat.le_of_ble_eq_true rfl⟩ rfl rfl (hrs.le hrm) hcb hsb rfl (fun G hc hX => ?_)
  show WW G 1622 [(0, .ref 4000000), (1, .ref 0), (2, .ref 43), (3, .int x3)] [.int r] I1 L1 X
  refine w_aload_n (q := 1623) (i := 2) (j := 2) hc dL_law_1622 rfl rfl rfl ?_
  refine w_aload_n (q := 1624) (i := 0) (j := 0) hc dL_law_1623 rfl rfl rfl ?_
  refine w_iload_n (q := 1625) (i := 3) (j := 3) hc dL_law_1624 rfl rfl rfl ?_
  refine w_iconst (q := 1626) hc dL_law_1625 ci_1 rfl ?_
  refine w_iadd (q := 1627) hc dL_law_1626 rfl ?_
  refine w_sld4 (q := 1628) hc hX dL_law_1627 h1 rfl ?_
  refine w_i2l (q := 1629) hc dL_law_1628 rfl ?_
  refine w_bipush (q := 1631) hc dL_law_1629 cb_32 rfl ?_
  refine w_lshl (q := 1632) hc dL_law_1631 rfl ?_
  refine w_aload_n (q := 1633) (i := 0) (j := 0) hc dL_law_1632 rfl rfl rfl ?_
  refine w_iload_n (q := 1634) (i := 3) (j := 3) hc dL_law_1633 rfl rfl rfl ?_
  refine w_iconst (q := 1635) hc dL_law_1634 ci_2 rfl ?_
  refine w_iadd (q := 1636) hc dL_law_1635 rfl ?_
  refine w_sld4 (q := 1637) hc hX dL_law_1636 h2 rfl ?_
  refine w_i2l (q := 1638) hc dL_law_1637 rfl ?_
  refine w_ldc2 (q := 1641) hc dL_law_1638 kl_L_46 rfl ?_
  refine w_land (q := 1642) hc dL_law_1641 rfl ?_
  refine w_lor (q := 1643) hc dL_law_1642 rfl ?_
  refine w_aload_n (q := 1644) (i := 0) (j := 0) hc dL_law_1643 rfl rfl rfl ?_
  refine w_iload_n (q := 1645) (i := 3) (j := 3) hc dL_law_1644 rfl rfl rfl ?_
  refine w_iconst (q := 1646) hc dL_law_1645 ci_3 rfl ?_
  refine w_iadd (q := 1647) hc dL_law_1646 rfl ?_
  refine w_sld4 (q := 1648) hc hX dL_law_1647 h3 rfl ?_
  refine w_i2l (q := 1649) hc dL_law_1648 rfl ?_
  refine w_bipush (q := 1651) hc dL_law_1649 cb_32 rfl ?_
  refine w_lshl (q := 1652) hc dL_law_1651 rfl ?_
  refine w_aload_n (q := 1653) (i := 0) (j := 0) hc dL_law_1652 rfl rfl rfl ?_
  refine w_iload_n (q := 1654) (i := 3) (j := 3) hc dL_law_1653 rfl rfl rfl ?_
  refine w_iconst (q := 1655) hc dL_law_1654 ci_4 rfl ?_
  refine w_iadd (q := 1656) hc dL_law_1655 rfl ?_
  refine w_sld4 (q := 1657) hc hX dL_law_1656 h4 rfl ?_
  refine w_i2l (q := 1658) hc dL_law_1657 rfl ?_
  refine w_ldc2 (q := 1661) hc dL_law_1658 kl_L_46 rfl ?_
  refine w_land (q := 1662) hc dL_law_1661 rfl ?_
  refine w_lor (q := 1663) hc dL_law_1662 rfl ?_
  refine w_lawV (x := (r, I2, L2)) (q := 1666) (st := [.int r]) (args := [.long ((lshl (Int32.toInt64 (xs (ix (x3 + 1)))) 32) ||| ((Int32.toInt64 (xs (ix (x3 + 2)))) &&& 4294967295)), .long ((lshl (Int32.toInt64 (xs (ix (x3 + 3)))) 32) ||| ((Int32.toInt64 (xs (ix (x3 + 4)))) &&& 4294967295))]) (p := 43) e2 hc (m_X8_same hX.1 hX.2.1) dL_law_1663 ml_L_165 cf_X8_same iv_X8_same (k_43 hX.1) (C := RX8) (T := TX8) (N := 45) rfl rfl (by decide) rfl rfl (Nat.le_of_ble_eq_true rfl) ⟨Nat.le_of_ble_eq_true rfl, Nat.le_of_ble_eq_true rfl⟩ rfl ?_
  show WW G 1666 [(0, .ref 4000000), (1, .ref 0), (2, .ref 43), (3, .int x3)] [.int r, .int r] I2 L2 X
  refine w_icmpeqT (tgt := 2377) hc dL_law_1666 rfl ?_
  exact kk G rm1 _ _ I2 L2 hc hX hI2 hrs rfl rfl
/-- central -/
def PR_35 (Inv : MI → ML → Nat → Prop) : Prop := ∀ (I : MI) (L : ML) (rm : Nat) (a0 : Int32), Inv I L rm → ∃ (r : Int32) (I1 : MI) (L1 : ML), f_X7_central a0 I L = some (r, I1, L1) ∧ ∃ (I2 : MI) (L2 : ML), f_X8_central a0 I1 L1 = some (r, I2, L2) ∧ Inv I2 L2 rm
set_option maxRecDepth 100000 in
set_option maxHeartbeats 4000000 in
theorem lc_35 {G : GT Unit} {b Ls rm c s : Nat} {xs : Nat → Int32} {x3 : Int32} {I : MI} {L : ML} {X : Option Unit} {Inv : MI → ML → Nat → Prop} (hp : PR_35 Inv) (hc : Cx G code RL ret 14 552) (hX : LX G b Ls xs rm c s) (h1 : vp_in (x3 + 1) Ls) (h2 : vp_in (x3 + 2) Ls) (h3 : vp_in (x3 + 3) Ls) (h4 : vp_in (x3 + 4) Ls) (h5 : vp_in (x3 + 5) Ls) (hInv : Inv I L rm) (hrm : rm ≤ 5040) (hcb : c + 20 ≤ 600000) (hsb : s + 90748 ≤ 7302250)
    (kk : ∀ (G : GT Unit) (rm1 c1 s1 : Nat) (I2 : MI) (L2 : ML), Cx G code RL ret 14 552 → LX G b Ls xs rm1 c1 s1 → Inv I2 L2 rm1 → RS rm rm1 → c1 = c + mcA rm rm1 → s1 = s + msA rm rm1 → WW G 2377 [(0, .ref 4000000), (1, .ref 0), (2, .ref 43), (3, .int x3)] [] I2 L2 X) : WW G 1671 [(0, .ref 4000000), (1, .ref 0), (2, .ref 43), (3, .int x3)] [] I L X := by
  obtain ⟨r, I1, L1, e1, I2, L2, e2, hI2⟩ := hp I L rm (xs (ix (x3 + 1))) hInv
  refine w_aload_n (q := 1672) (i := 1) (j := 1) hc dL_law_1671 rfl rfl rfl ?_
  refine w_aload_n (q := 1673) (i := 0) (j := 0) hc dL_law_1672 rfl rfl rfl ?_
  refine w_iload_n (q := 1674) (i := 3) (j := 3) hc dL_law_1673 rfl rfl rfl ?_
  refine w_iconst (q := 1675) hc dL_law_1674 ci_1 rfl ?_
  refine w_iadd (q := 1676) hc dL_law_1675 rfl ?_
  refine w_sld4 (q := 1677) hc hX dL_law_1676 h1 rfl ?_
  refine w_lawV (x := (r, I1, L1)) (q := 1680) (st := []) (args := [.int (xs (ix (x3 + 1)))]) (p := 0) e1 hc (m_X7_central hX.1 hX.2.1) dL_law_1677 ml_L_166 cf_X7_central iv_X7_central (k_0 hX.1) (C := RX7) (T := TX7) (N := 7) rfl rfl (by decide) rfl rfl (Nat.le_of_ble_eq_true rfl) ⟨Nat.le_of_ble_eq_true rfl, Nat.le_of_ble_eq_true rfl⟩ rfl ?_
  show WW G 1680 [(0, .ref 4000000), (1, .ref 0), (2, .ref 43), (3, .int x3)] [.int r] I1 L1 X
  refine w_aload_n (q := 1681) (i := 2) (j := 2) hc dL_law_1680 rfl rfl rfl ?_
  refine w_aload_n (q := 1682) (i := 0) (j := 0) hc dL_law_1681 rfl rfl rfl ?_
  refine w_iload_n (q := 1683) (i := 3) (j := 3) hc dL_law_1682 rfl rfl rfl ?_
  refine w_iconst (q := 1684) hc dL_law_1683 ci_1 rfl ?_
  refine w_iadd (q := 1685) hc dL_law_1684 rfl ?_
  refine w_sld4 (q := 1686) hc hX dL_law_1685 h1 rfl ?_
  refine w_lawV (x := (r, I2, L2)) (q := 1689) (st := [.int r]) (args := [.int (xs (ix (x3 + 1)))]) (p := 43) e2 hc (m_X8_central hX.1 hX.2.1) dL_law_1686 ml_L_169 cf_X8_central iv_X8_central (k_43 hX.1) (C := RX8) (T := TX8) (N := 45) rfl rfl (by decide) rfl rfl (Nat.le_of_ble_eq_true rfl) ⟨Nat.le_of_ble_eq_true rfl, Nat.le_of_ble_eq_true rfl⟩ rfl ?_
  show WW G 1689 [(0, .ref 4000000), (1, .ref 0), (2, .ref 43), (3, .int x3)] [.int r, .int r] I2 L2 X
  refine w_icmpeqT (tgt := 2377) hc dL_law_1689 rfl ?_
  exact kk G rm c s I2 L2 hc hX hI2 (Or.inl rfl) (by rw [mcA_0]; rfl) (by rw [msA_0]; rfl)
/-- by -/
def PR_36 (Inv : MI → ML → Nat → Prop) : Prop := ∀ (I : MI) (L : ML) (rm : Nat) (a0 : Int32), Inv I L rm → ∃ (r : Int32) (I1 : MI) (L1 : ML), f_X7_by a0 I L = some (r, I1, L1) ∧ ∃ (I2 : MI) (L2 : ML), f_X8_by a0 I1 L1 = some (r, I2, L2) ∧ Inv I2 L2 rm
set_option maxRecDepth 100000 in
set_option maxHeartbeats 4000000 in
theorem lc_36 {G : GT Unit} {b Ls rm c s : Nat} {xs : Nat → Int32} {x3 : Int32} {I : MI} {L : ML} {X : Option Unit} {Inv : MI → ML → Nat → Prop} (hp : PR_36 Inv) (hc : Cx G code RL ret 14 552) (hX : LX G b Ls xs rm c s) (h1 : vp_in (x3 + 1) Ls) (h2 : vp_in (x3 + 2) Ls) (h3 : vp_in (x3 + 3) Ls) (h4 : vp_in (x3 + 4) Ls) (h5 : vp_in (x3 + 5) Ls) (hInv : Inv I L rm) (hrm : rm ≤ 5040) (hcb : c + 20 ≤ 600000) (hsb : s + 90748 ≤ 7302250)
    (kk : ∀ (G : GT Unit) (rm1 c1 s1 : Nat) (I2 : MI) (L2 : ML), Cx G code RL ret 14 552 → LX G b Ls xs rm1 c1 s1 → Inv I2 L2 rm1 → RS rm rm1 → c1 = c + mcA rm rm1 → s1 = s + msA rm rm1 → WW G 2377 [(0, .ref 4000000), (1, .ref 0), (2, .ref 43), (3, .int x3)] [] I2 L2 X) : WW G 1694 [(0, .ref 4000000), (1, .ref 0), (2, .ref 43), (3, .int x3)] [] I L X := by
  obtain ⟨r, I1, L1, e1, I2, L2, e2, hI2⟩ := hp I L rm (xs (ix (x3 + 1))) hInv
  refine w_aload_n (q := 1695) (i := 1) (j := 1) hc dL_law_1694 rfl rfl rfl ?_
  refine w_aload_n (q := 1696) (i := 0) (j := 0) hc dL_law_1695 rfl rfl rfl ?_
  refine w_iload_n (q := 1697) (i := 3) (j := 3) hc dL_law_1696 rfl rfl rfl ?_
  refine w_iconst (q := 1698) hc dL_law_1697 ci_1 rfl ?_
  refine w_iadd (q := 1699) hc dL_law_1698 rfl ?_
  refine w_sld4 (q := 1700) hc hX dL_law_1699 h1 rfl ?_
  refine w_lawV (x := (r, I1, L1)) (q := 1703) (st := []) (args := [.int (xs (ix (x3 + 1)))]) (p := 0) e1 hc (m_X7_by hX.1 hX.2.1) dL_law_1700 ml_L_170 cf_X7_by iv_X7_by (k_0 hX.1) (C := RX7) (T := TX7) (N := 7) rfl rfl (by decide) rfl rfl (Nat.le_of_ble_eq_true rfl) ⟨Nat.le_of_ble_eq_true rfl, Nat.le_of_ble_eq_true rfl⟩ rfl ?_
  show WW G 1703 [(0, .ref 4000000), (1, .ref 0), (2, .ref 43), (3, .int x3)] [.int r] I1 L1 X
  refine w_aload_n (q := 1704) (i := 2) (j := 2) hc dL_law_1703 rfl rfl rfl ?_
  refine w_aload_n (q := 1705) (i := 0) (j := 0) hc dL_law_1704 rfl rfl rfl ?_
  refine w_iload_n (q := 1706) (i := 3) (j := 3) hc dL_law_1705 rfl rfl rfl ?_
  refine w_iconst (q := 1707) hc dL_law_1706 ci_1 rfl ?_
  refine w_iadd (q := 1708) hc dL_law_1707 rfl ?_
  refine w_sld4 (q := 1709) hc hX dL_law_1708 h1 rfl ?_
  refine w_lawV (x := (r, I2, L2)) (q := 1712) (st := [.int r]) (args := [.int (xs (ix (x3 + 1)))]) (p := 43) e2 hc (m_X8_by hX.1 hX.2.1) dL_law_1709 ml_L_173 cf_X8_by iv_X8_by (k_43 hX.1) (C := RX8) (T := TX8) (N := 45) rfl rfl (by decide) rfl rfl (Nat.le_of_ble_eq_true rfl) ⟨Nat.le_of_ble_eq_true rfl, Nat.le_of_ble_eq_true rfl⟩ rfl ?_
  show WW G 1712 [(0, .ref 4000000), (1, .ref 0), (2, .ref 43), (3, .int x3)] [.int r, .int r] I2 L2 X
  refine w_icmpeqT (tgt := 2377) hc dL_law_1712 rfl ?_
  exact kk G rm c s I2 L2 hc hX hI2 (Or.inl rfl) (by rw [mcA_0]; rfl) (by rw [msA_0]; rfl)
/-- meet -/
def PR_37 (Inv : MI → ML → Nat → Prop) : Prop := ∀ (I : MI) (L : ML) (rm : Nat) (a0 : Int32) (a1 : Int32), Inv I L rm → ∃ (r : Int32) (I1 : MI) (L1 : ML) (rm1 : Nat), f_X7_meet rm a0 a1 I L = some ((r, I1, L1), rm1) ∧ RS rm rm1 ∧ ∃ (I2 : MI) (L2 : ML), f_X8_meet a0 a1 I1 L1 = some (r, I2, L2) ∧ Inv I2 L2 rm1
set_option maxRecDepth 100000 in
set_option maxHeartbeats 4000000 in
theorem lc_37 {G : GT Unit} {b Ls rm c s : Nat} {xs : Nat → Int32} {x3 : Int32} {I : MI} {L : ML} {X : Option Unit} {Inv : MI → ML → Nat → Prop} (hp : PR_37 Inv) (hc : Cx G code RL ret 14 552) (hX : LX G b Ls xs rm c s) (h1 : vp_in (x3 + 1) Ls) (h2 : vp_in (x3 + 2) Ls) (h3 : vp_in (x3 + 3) Ls) (h4 : vp_in (x3 + 4) Ls) (h5 : vp_in (x3 + 5) Ls) (hInv : Inv I L rm) (hrm : rm ≤ 5040) (hcb : c + 20 ≤ 600000) (hsb : s + 90748 ≤ 7302250)
    (kk : ∀ (G : GT Unit) (rm1 c1 s1 : Nat) (I2 : MI) (L2 : ML), Cx G code RL ret 14 552 → LX G b Ls xs rm1 c1 s1 → Inv I2 L2 rm1 → RS rm rm1 → c1 = c + mcA rm rm1 → s1 = s + msA rm rm1 → WW G 2377 [(0, .ref 4000000), (1, .ref 0), (2, .ref 43), (3, .int x3)] [] I2 L2 X) : WW G 1717 [(0, .ref 4000000), (1, .ref 0), (2, .ref 43), (3, .int x3)] [] I L X := by
  obtain ⟨r, I1, L1, rm1, e1, hrs, I2, L2, e2, hI2⟩ := hp I L rm (xs (ix (x3 + 1))) (xs (ix (x3 + 2))) hInv
  refine w_aload_n (q := 1718) (i := 1) (j := 1) hc dL_law_1717 rfl rfl rfl ?_
  refine w_aload_n (q := 1719) (i := 0) (j := 0) hc dL_law_1718 rfl rfl rfl ?_
  refine w_iload_n (q := 1720) (i := 3) (j := 3) hc dL_law_1719 rfl rfl rfl ?_
  refine w_iconst (q := 1721) hc dL_law_1720 ci_1 rfl ?_
  refine w_iadd (q := 1722) hc dL_law_1721 rfl ?_
  refine w_sld4 (q := 1723) hc hX dL_law_1722 h1 rfl ?_
  refine w_aload_n (q := 1724) (i := 0) (j := 0) hc dL_law_1723 rfl rfl rfl ?_
  refine w_iload_n (q := 1725) (i := 3) (j := 3) hc dL_law_1724 rfl rfl rfl ?_
  refine w_iconst (q := 1726) hc dL_law_1725 ci_2 rfl ?_
  refine w_iadd (q := 1727) hc dL_law_1726 rfl ?_
  refine w_sld4 (q := 1728) hc hX dL_law_1727 h2 rfl ?_
  refine w_lawA (x := ((r, I1, L1), rm1)) (q := 1731) (st := []) (args := [.int (xs (ix (x3 + 1))), .int (xs (ix (x3 + 2)))]) (p := 0) e1 hc hX m_X7_meet dL_law_1728 ml_L_174 cf_X7_meet iv_X7_meet (k_0 hX.1) (C := RX7) (T := TX7) (N := 7) rfl rfl (by decide) rfl rfl (Nat.le_of_ble_eq_true rfl) ⟨Nat.le_of_ble_eq_true rfl, Nat.le_of_ble_eq_true rfl⟩ rfl rfl (hrs.le hrm) hcb hsb rfl (fun G hc hX => ?_)
  show WW G 1731 [(0, .ref 4000000), (1, .ref 0), (2, .ref 43), (3, .int x3)] [.int r] I1 L1 X
  refine w_aload_n (q := 1732) (i := 2) (j := 2) hc dL_law_1731 rfl rfl rfl ?_
  refine w_aload_n (q := 1733) (i := 0) (j := 0) hc dL_law_1732 rfl rfl rfl ?_
  refine w_iload_n (q := 1734) (i := 3) (j := 3) hc dL_law_1733 rfl rfl rfl ?_
  refine w_iconst (q := 1735) hc dL_law_1734 ci_1 rfl ?_
  refine w_iadd (q := 1736) hc dL_law_1735 rfl ?_
  refine w_sld4 (q := 1737) hc hX dL_law_1736 h1 rfl ?_
  refine w_aload_n (q := 1738) (i := 0) (j := 0) hc dL_law_1737 rfl rfl rfl ?_
  refine w_iload_n (q := 1739) (i := 3) (j := 3) hc dL_law_1738 rfl rfl rfl ?_
  refine w_iconst (q := 1740) hc dL_law_1739 ci_2 rfl ?_
  refine w_iadd (q := 1741) hc dL_law_1740 rfl ?_
  refine w_sld4 (q := 1742) hc hX dL_law_1741 h2 rfl ?_
  refine w_lawV (x := (r, I2, L2)) (q := 1745) (st := [.int r]) (args := [.int (xs (ix (x3 + 1))), .int (xs (ix (x3 + 2)))]) (p := 43) e2 hc (m_X8_meet hX.1 hX.2.1) dL_law_1742 ml_L_178 cf_X8_meet iv_X8_meet (k_43 hX.1) (C := RX8) (T := TX8) (N := 45) rfl rfl (by decide) rfl rfl (Nat.le_of_ble_eq_true rfl) ⟨Nat.le_of_ble_eq_true rfl, Nat.le_of_ble_eq_true rfl⟩ rfl ?_
  show WW G 1745 [(0, .ref 4000000), (1, .ref 0), (2, .ref 43), (3, .int x3)] [.int r, .int r] I2 L2 X
  refine w_icmpeqT (tgt := 2377) hc dL_law_1745 rfl ?_
  exact kk G rm1 _ _ I2 L2 hc hX hI2 hrs rfl rfl
/-- normal -/
def PR_38 (Inv : MI → ML → Nat → Prop) : Prop := ∀ (I : MI) (L : ML) (rm : Nat) (a0 : Int32), Inv I L rm → ∃ (r : Int32) (I1 : MI) (L1 : ML), f_X7_normal a0 I L = some (r, I1, L1) ∧ ∃ (I2 : MI) (L2 : ML), f_X8_normal a0 I1 L1 = some (r, I2, L2) ∧ Inv I2 L2 rm
set_option maxRecDepth 100000 in
set_option maxHeartbeats 4000000 in
theorem lc_38 {G : GT Unit} {b Ls rm c s : Nat} {xs : Nat → Int32} {x3 : Int32} {I : MI} {L : ML} {X : Option Unit} {Inv : MI → ML → Nat → Prop} (hp : PR_38 Inv) (hc : Cx G code RL ret 14 552) (hX : LX G b Ls xs rm c s) (h1 : vp_in (x3 + 1) Ls) (h2 : vp_in (x3 + 2) Ls) (h3 : vp_in (x3 + 3) Ls) (h4 : vp_in (x3 + 4) Ls) (h5 : vp_in (x3 + 5) Ls) (hInv : Inv I L rm) (hrm : rm ≤ 5040) (hcb : c + 20 ≤ 600000) (hsb : s + 90748 ≤ 7302250)
    (kk : ∀ (G : GT Unit) (rm1 c1 s1 : Nat) (I2 : MI) (L2 : ML), Cx G code RL ret 14 552 → LX G b Ls xs rm1 c1 s1 → Inv I2 L2 rm1 → RS rm rm1 → c1 = c + mcA rm rm1 → s1 = s + msA rm rm1 → WW G 2377 [(0, .ref 4000000), (1, .ref 0), (2, .ref 43), (3, .int x3)] [] I2 L2 X) : WW G 1750 [(0, .ref 4000000), (1, .ref 0), (2, .ref 43), (3, .int x3)] [] I L X := by
  obtain ⟨r, I1, L1, e1, I2, L2, e2, hI2⟩ := hp I L rm (xs (ix (x3 + 1))) hInv
  refine w_aload_n (q := 1751) (i := 1) (j := 1) hc dL_law_1750 rfl rfl rfl ?_
  refine w_aload_n (q := 1752) (i := 0) (j := 0) hc dL_law_1751 rfl rfl rfl ?_
  refine w_iload_n (q := 1753) (i := 3) (j := 3) hc dL_law_1752 rfl rfl rfl ?_
  refine w_iconst (q := 1754) hc dL_law_1753 ci_1 rfl ?_
  refine w_iadd (q := 1755) hc dL_law_1754 rfl ?_
  refine w_sld4 (q := 1756) hc hX dL_law_1755 h1 rfl ?_
  refine w_lawV (x := (r, I1, L1)) (q := 1759) (st := []) (args := [.int (xs (ix (x3 + 1)))]) (p := 0) e1 hc (m_X7_normal hX.1 hX.2.1) dL_law_1756 ml_L_179 cf_X7_normal iv_X7_normal (k_0 hX.1) (C := RX7) (T := TX7) (N := 7) rfl rfl (by decide) rfl rfl (Nat.le_of_ble_eq_true rfl) ⟨Nat.le_of_ble_eq_true rfl, Nat.le_of_ble_eq_true rfl⟩ rfl ?_
  show WW G 1759 [(0, .ref 4000000), (1, .ref 0), (2, .ref 43), (3, .int x3)] [.int r] I1 L1 X
  refine w_aload_n (q := 1760) (i := 2) (j := 2) hc dL_law_1759 rfl rfl rfl ?_
  refine w_aload_n (q := 1761) (i := 0) (j := 0) hc dL_law_1760 rfl rfl rfl ?_
  refine w_iload_n (q := 1762) (i := 3) (j := 3) hc dL_law_1761 rfl rfl rfl ?_
  refine w_iconst (q := 1763) hc dL_law_1762 ci_1 rfl ?_
  refine w_iadd (q := 1764) hc dL_law_1763 rfl ?_
  refine w_sld4 (q := 1765) hc hX dL_law_1764 h1 rfl ?_
  refine w_lawV (x := (r, I2, L2)) (q := 1768) (st := [.int r]) (args := [.int (xs (ix (x3 + 1)))]) (p := 43) e2 hc (m_X8_normal hX.1 hX.2.1) dL_law_1765 ml_L_182 cf_X8_normal iv_X8_normal (k_43 hX.1) (C := RX8) (T := TX8) (N := 45) rfl rfl (by decide) rfl rfl (Nat.le_of_ble_eq_true rfl) ⟨Nat.le_of_ble_eq_true rfl, Nat.le_of_ble_eq_true rfl⟩ rfl ?_
  show WW G 1768 [(0, .ref 4000000), (1, .ref 0), (2, .ref 43), (3, .int x3)] [.int r, .int r] I2 L2 X
  refine w_icmpeqT (tgt := 2377) hc dL_law_1768 rfl ?_
  exact kk G rm c s I2 L2 hc hX hI2 (Or.inl rfl) (by rw [mcA_0]; rfl) (by rw [msA_0]; rfl)
/-- spare -/
def PR_39 (Inv : MI → ML → Nat → Prop) : Prop := ∀ (I : MI) (L : ML) (rm : Nat), Inv I L rm → ∃ (r : Int32) (I1 : MI) (L1 : ML), f_X7_spare I L = some (r, I1, L1) ∧ ∃ (I2 : MI) (L2 : ML), f_X8_spare I1 L1 = some (r, I2, L2) ∧ Inv I2 L2 rm
set_option maxRecDepth 100000 in
set_option maxHeartbeats 4000000 in
theorem lc_39 {G : GT Unit} {b Ls rm c s : Nat} {xs : Nat → Int32} {x3 : Int32} {I : MI} {L : ML} {X : Option Unit} {Inv : MI → ML → Nat → Prop} (hp : PR_39 Inv) (hc : Cx G code RL ret 14 552) (hX : LX G b Ls xs rm c s) (h1 : vp_in (x3 + 1) Ls) (h2 : vp_in (x3 + 2) Ls) (h3 : vp_in (x3 + 3) Ls) (h4 : vp_in (x3 + 4) Ls) (h5 : vp_in (x3 + 5) Ls) (hInv : Inv I L rm) (hrm : rm ≤ 5040) (hcb : c + 20 ≤ 600000) (hsb : s + 90748 ≤ 7302250)
    (kk : ∀ (G : GT Unit) (rm1 c1 s1 : Nat) (I2 : MI) (L2 : ML), Cx G code RL ret 14 552 → LX G b Ls xs rm1 c1 s1 → Inv I2 L2 rm1 → RS rm rm1 → c1 = c + mcA rm rm1 → s1 = s + msA rm rm1 → WW G 2377 [(0, .ref 4000000), (1, .ref 0), (2, .ref 43), (3, .int x3)] [] I2 L2 X) : WW G 1773 [(0, .ref 4000000), (1, .ref 0), (2, .ref 43), (3, .int x3)] [] I L X := by
  obtain ⟨r, I1, L1, e1, I2, L2, e2, hI2⟩ := hp I L rm hInv
  refine w_aload_n (q := 1774) (i := 1) (j := 1) hc dL_law_1773 rfl rfl rfl ?_
  refine w_lawV (x := (r, I1, L1)) (q := 1777) (st := []) (args := []) (p := 0) e1 hc (m_X7_spare hX.1 hX.2.1) dL_law_1774 ml_L_183 cf_X7_spare iv_X7_spare (k_0 hX.1) (C := RX7) (T := TX7) (N := 7) rfl rfl (by decide) rfl rfl (Nat.le_of_ble_eq_true rfl) ⟨Nat.le_of_ble_eq_true rfl, Nat.le_of_ble_eq_true rfl⟩ rfl ?_
  show WW G 1777 [(0, .ref 4000000), (1, .ref 0), (2, .ref 43), (3, .int x3)] [.int r] I1 L1 X
  refine w_aload_n (q := 1778) (i := 2) (j := 2) hc dL_law_1777 rfl rfl rfl ?_
  refine w_lawV (x := (r, I2, L2)) (q := 1781) (st := [.int r]) (args := []) (p := 43) e2 hc (m_X8_spare hX.1 hX.2.1) dL_law_1778 ml_L_186 cf_X8_spare iv_X8_spare (k_43 hX.1) (C := RX8) (T := TX8) (N := 45) rfl rfl (by decide) rfl rfl (Nat.le_of_ble_eq_true rfl) ⟨Nat.le_of_ble_eq_true rfl, Nat.le_of_ble_eq_true rfl⟩ rfl ?_
  show WW G 1781 [(0, .ref 4000000), (1, .ref 0), (2, .ref 43), (3, .int x3)] [.int r, .int r] I2 L2 X
  refine w_icmpeqT (tgt := 2377) hc dL_law_1781 rfl ?_
  exact kk G rm c s I2 L2 hc hX hI2 (Or.inl rfl) (by rw [mcA_0]; rfl) (by rw [msA_0]; rfl)
/-- fewest -/
def PR_40 (Inv : MI → ML → Nat → Prop) : Prop := ∀ (I : MI) (L : ML) (rm : Nat), Inv I L rm → ∃ (r : Int32) (I1 : MI) (L1 : ML), f_X7_fewest I L = some (r, I1, L1) ∧ ∃ (I2 : MI) (L2 : ML), f_X8_fewest I1 L1 = some (r, I2, L2) ∧ Inv I2 L2 rm
set_option maxRecDepth 100000 in
set_option maxHeartbeats 4000000 in
theorem lc_40 {G : GT Unit} {b Ls rm c s : Nat} {xs : Nat → Int32} {x3 : Int32} {I : MI} {L : ML} {X : Option Unit} {Inv : MI → ML → Nat → Prop} (hp : PR_40 Inv) (hc : Cx G code RL ret 14 552) (hX : LX G b Ls xs rm c s) (h1 : vp_in (x3 + 1) Ls) (h2 : vp_in (x3 + 2) Ls) (h3 : vp_in (x3 + 3) Ls) (h4 : vp_in (x3 + 4) Ls) (h5 : vp_in (x3 + 5) Ls) (hInv : Inv I L rm) (hrm : rm ≤ 5040) (hcb : c + 20 ≤ 600000) (hsb : s + 90748 ≤ 7302250)
    (kk : ∀ (G : GT Unit) (rm1 c1 s1 : Nat) (I2 : MI) (L2 : ML), Cx G code RL ret 14 552 → LX G b Ls xs rm1 c1 s1 → Inv I2 L2 rm1 → RS rm rm1 → c1 = c + mcA rm rm1 → s1 = s + msA rm rm1 → WW G 2377 [(0, .ref 4000000), (1, .ref 0), (2, .ref 43), (3, .int x3)] [] I2 L2 X) : WW G 1786 [(0, .ref 4000000), (1, .ref 0), (2, .ref 43), (3, .int x3)] [] I L X := by
  obtain ⟨r, I1, L1, e1, I2, L2, e2, hI2⟩ := hp I L rm hInv
  refine w_aload_n (q := 1787) (i := 1) (j := 1) hc dL_law_1786 rfl rfl rfl ?_
  refine w_lawV (x := (r, I1, L1)) (q := 1790) (st := []) (args := []) (p := 0) e1 hc (m_X7_fewest hX.1 hX.2.1) dL_law_1787 ml_L_187 cf_X7_fewest iv_X7_fewest (k_0 hX.1) (C := RX7) (T := TX7) (N := 7) rfl rfl (by decide) rfl rfl (Nat.le_of_ble_eq_true rfl) ⟨Nat.le_of_ble_eq_true rfl, Nat.le_of_ble_eq_true rfl⟩ rfl ?_
  show WW G 1790 [(0, .ref 4000000), (1, .ref 0), (2, .ref 43), (3, .int x3)] [.int r] I1 L1 X
  refine w_aload_n (q := 1791) (i := 2) (j := 2) hc dL_law_1790 rfl rfl rfl ?_
  refine w_lawV (x := (r, I2, L2)) (q := 1794) (st := [.int r]) (args := []) (p := 43) e2 hc (m_X8_fewest hX.1 hX.2.1) dL_law_1791 ml_L_190 cf_X8_fewest iv_X8_fewest (k_43 hX.1) (C := RX8) (T := TX8) (N := 45) rfl rfl (by decide) rfl rfl (Nat.le_of_ble_eq_true rfl) ⟨Nat.le_of_ble_eq_true rfl, Nat.le_of_ble_eq_true rfl⟩ rfl ?_
  show WW G 1794 [(0, .ref 4000000), (1, .ref 0), (2, .ref 43), (3, .int x3)] [.int r, .int r] I2 L2 X
  refine w_icmpeqT (tgt := 2377) hc dL_law_1794 rfl ?_
  exact kk G rm c s I2 L2 hc hX hI2 (Or.inl rfl) (by rw [mcA_0]; rfl) (by rw [msA_0]; rfl)
/-- holds -/
def PR_41 (Inv : MI → ML → Nat → Prop) : Prop := ∀ (I : MI) (L : ML) (rm : Nat) (a0 : Int32), Inv I L rm → ∃ (r : Int32) (I1 : MI) (L1 : ML), f_X7_holds a0 I L = some (r, I1, L1) ∧ ∃ (I2 : MI) (L2 : ML), f_X8_holds a0 I1 L1 = some (r, I2, L2) ∧ Inv I2 L2 rm
set_option maxRecDepth 100000 in
set_option maxHeartbeats 4000000 in
theorem lc_41 {G : GT Unit} {b Ls rm c s : Nat} {xs : Nat → Int32} {x3 : Int32} {I : MI} {L : ML} {X : Option Unit} {Inv : MI → ML → Nat → Prop} (hp : PR_41 Inv) (hc : Cx G code RL ret 14 552) (hX : LX G b Ls xs rm c s) (h1 : vp_in (x3 + 1) Ls) (h2 : vp_in (x3 + 2) Ls) (h3 : vp_in (x3 + 3) Ls) (h4 : vp_in (x3 + 4) Ls) (h5 : vp_in (x3 + 5) Ls) (hInv : Inv I L rm) (hrm : rm ≤ 5040) (hcb : c + 20 ≤ 600000) (hsb : s + 90748 ≤ 7302250)
    (kk : ∀ (G : GT Unit) (rm1 c1 s1 : Nat) (I2 : MI) (L2 : ML), Cx G code RL ret 14 552 → LX G b Ls xs rm1 c1 s1 → Inv I2 L2 rm1 → RS rm rm1 → c1 = c + mcA rm rm1 → s1 = s + msA rm rm1 → WW G 2377 [(0, .ref 4000000), (1, .ref 0), (2, .ref 43), (3, .int x3)] [] I2 L2 X) : WW G 1799 [(0, .ref 4000000), (1, .ref 0), (2, .ref 43), (3, .int x3)] [] I L X := by
  obtain ⟨r, I1, L1, e1, I2, L2, e2, hI2⟩ := hp I L rm (xs (ix (x3 + 1))) hInv
  refine w_aload_n (q := 1800) (i := 1) (j := 1) hc dL_law_1799 rfl rfl rfl ?_
  refine w_aload_n (q := 1801) (i := 0) (j := 0) hc dL_law_1800 rfl rfl rfl ?_
  refine w_iload_n (q := 1802) (i := 3) (j := 3) hc dL_law_1801 rfl rfl rfl ?_
  refine w_iconst (q := 1803) hc dL_law_1802 ci_1 rfl ?_
  refine w_iadd (q := 1804) hc dL_law_1803 rfl ?_
  refine w_sld4 (q := 1805) hc hX dL_law_1804 h1 rfl ?_
  refine w_lawV (x := (r, I1, L1)) (q := 1808) (st := []) (args := [.int (xs (ix (x3 + 1)))]) (p := 0) e1 hc (m_X7_holds hX.1 hX.2.1) dL_law_1805 ml_L_191 cf_X7_holds iv_X7_holds (k_0 hX.1) (C := RX7) (T := TX7) (N := 7) rfl rfl (by decide) rfl rfl (Nat.le_of_ble_eq_true rfl) ⟨Nat.le_of_ble_eq_true rfl, Nat.le_of_ble_eq_true rfl⟩ rfl ?_
  show WW G 1808 [(0, .ref 4000000), (1, .ref 0), (2, .ref 43), (3, .int x3)] [.int r] I1 L1 X
  refine w_aload_n (q := 1809) (i := 2) (j := 2) hc dL_law_1808 rfl rfl rfl ?_
  refine w_aload_n (q := 1810) (i := 0) (j := 0) hc dL_law_1809 rfl rfl rfl ?_
  refine w_iload_n (q := 1811) (i := 3) (j := 3) hc dL_law_1810 rfl rfl rfl ?_
  refine w_iconst (q := 1812) hc dL_law_1811 ci_1 rfl ?_
  refine w_iadd (q := 1813) hc dL_law_1812 rfl ?_
  refine w_sld4 (q := 1814) hc hX dL_law_1813 h1 rfl ?_
  refine w_lawV (x := (r, I2, L2)) (q := 1817) (st := [.int r]) (args := [.int (xs (ix (x3 + 1)))]) (p := 43) e2 hc (m_X8_holds hX.1 hX.2.1) dL_law_1814 ml_L_194 cf_X8_holds iv_X8_holds (k_43 hX.1) (C := RX8) (T := TX8) (N := 45) rfl rfl (by decide) rfl rfl (Nat.le_of_ble_eq_true rfl) ⟨Nat.le_of_ble_eq_true rfl, Nat.le_of_ble_eq_true rfl⟩ rfl ?_
  show WW G 1817 [(0, .ref 4000000), (1, .ref 0), (2, .ref 43), (3, .int x3)] [.int r, .int r] I2 L2 X
  refine w_icmpeqT (tgt := 2377) hc dL_law_1817 rfl ?_
  exact kk G rm c s I2 L2 hc hX hI2 (Or.inl rfl) (by rw [mcA_0]; rfl) (by rw [msA_0]; rfl)
/-- keeps -/
def PR_42 (Inv : MI → ML → Nat → Prop) : Prop := ∀ (I : MI) (L : ML) (rm : Nat) (a0 : Int32), Inv I L rm → ∃ (r : Int32) (I1 : MI) (L1 : ML) (rm1 : Nat), f_X7_keeps rm a0 I L = some ((r, I1, L1), rm1) ∧ RS rm rm1 ∧ ∃ (I2 : MI) (L2 : ML), f_X8_keeps a0 I1 L1 = some (r, I2, L2) ∧ Inv I2 L2 rm1
set_option maxRecDepth 100000 in
set_option maxHeartbeats 4000000 in
theorem lc_42 {G : GT Unit} {b Ls rm c s : Nat} {xs : Nat → Int32} {x3 : Int32} {I : MI} {L : ML} {X : Option Unit} {Inv : MI → ML → Nat → Prop} (hp : PR_42 Inv) (hc : Cx G code RL ret 14 552) (hX : LX G b Ls xs rm c s) (h1 : vp_in (x3 + 1) Ls) (h2 : vp_in (x3 + 2) Ls) (h3 : vp_in (x3 + 3) Ls) (h4 : vp_in (x3 + 4) Ls) (h5 : vp_in (x3 + 5) Ls) (hInv : Inv I L rm) (hrm : rm ≤ 5040) (hcb : c + 20 ≤ 600000) (hsb : s + 90748 ≤ 7302250)
    (kk : ∀ (G : GT Unit) (rm1 c1 s1 : Nat) (I2 : MI) (L2 : ML), Cx G code RL ret 14 552 → LX G b Ls xs rm1 c1 s1 → Inv I2 L2 rm1 → RS rm rm1 → c1 = c + mcA rm rm1 → s1 = s + msA rm rm1 → WW G 2377 [(0, .ref 4000000), (1, .ref 0), (2, .ref 43), (3, .int x3)] [] I2 L2 X) : WW G 1822 [(0, .ref 4000000), (1, .ref 0), (2, .ref 43), (3, .int x3)] [] I L X := by
  obtain ⟨r, I1, L1, rm1, e1, hrs, I2, L2, e2, hI2⟩ := hp I L rm (xs (ix (x3 + 1))) hInv
  refine w_aload_n (q := 1823) (i := 1) (j := 1) hc dL_law_1822 rfl rfl rfl ?_
  refine w_aload_n (q := 1824) (i := 0) (j := 0) hc dL_law_1823 rfl rfl rfl ?_
  refine w_iload_n (q := 1825) (i := 3) (j := 3) hc dL_law_1824 rfl rfl rfl ?_
  refine w_iconst (q := 1826) hc dL_law_1825 ci_1 rfl ?_
  refine w_iadd (q := 1827) hc dL_law_1826 rfl ?_
  refine w_sld4 (q := 1828) hc hX dL_law_1827 h1 rfl ?_
  refine w_lawA (x := ((r, I1, L1), rm1)) (q := 1831) (st := []) (args := [.int (xs (ix (x3 + 1)))]) (p := 0) e1 hc hX m_X7_keeps dL_law_1828 ml_L_195 cf_X7_keeps iv_X7_keeps (k_0 hX.1) (C := RX7) (T := TX7) (N := 7) rfl rfl (by decide) rfl rfl (Nat.le_of_ble_eq_true rfl) ⟨Nat.le_of_ble_eq_true rfl, Nat.le_of_ble_eq_true rfl⟩ rfl rfl (hrs.le hrm) hcb hsb rfl (fun G hc hX => ?_)
  show WW G 1831 [(0, .ref 4000000), (1, .ref 0), (2, .ref 43), (3, .int x3)] [.int r] I1 L1 X
  refine w_aload_n (q := 1832) (i := 2) (j := 2) hc dL_law_1831 rfl rfl rfl ?_
  refine w_aload_n (q := 1833) (i := 0) (j := 0) hc dL_law_1832 rfl rfl rfl ?_
  refine w_iload_n (q := 1834) (i := 3) (j := 3) hc dL_law_1833 rfl rfl rfl ?_
  refine w_iconst (q := 1835) hc dL_law_1834 ci_1 rfl ?_
  refine w_iadd (q := 1836) hc dL_law_1835 rfl ?_
  refine w_sld4 (q := 1837) hc hX dL_law_1836 h1 rfl ?_
  refine w_lawV (x := (r, I2, L2)) (q := 1840) (st := [.int r]) (args := [.int (xs (ix (x3 + 1)))]) (p := 43) e2 hc (m_X8_keeps hX.1 hX.2.1) dL_law_1837 ml_L_198 cf_X8_keeps iv_X8_keeps (k_43 hX.1) (C := RX8) (T := TX8) (N := 45) rfl rfl (by decide) rfl rfl (Nat.le_of_ble_eq_true rfl) ⟨Nat.le_of_ble_eq_true rfl, Nat.le_of_ble_eq_true rfl⟩ rfl ?_
  show WW G 1840 [(0, .ref 4000000), (1, .ref 0), (2, .ref 43), (3, .int x3)] [.int r, .int r] I2 L2 X
  refine w_icmpeqT (tgt := 2377) hc dL_law_1840 rfl ?_
  exact kk G rm1 _ _ I2 L2 hc hX hI2 hrs rfl rfl
/-- brings -/
def PR_43 (Inv : MI → ML → Nat → Prop) : Prop := ∀ (I : MI) (L : ML) (rm : Nat) (a0 : Int32) (a1 : Int32), Inv I L rm → ∃ (r : Int32) (I1 : MI) (L1 : ML) (rm1 : Nat), f_X7_brings rm a0 a1 I L = some ((r, I1, L1), rm1) ∧ RS rm rm1 ∧ ∃ (I2 : MI) (L2 : ML), f_X8_brings a0 a1 I1 L1 = some (r, I2, L2) ∧ Inv I2 L2 rm1
set_option maxRecDepth 100000 in
set_option maxHeartbeats 4000000 in
theorem lc_43 {G : GT Unit} {b Ls rm c s : Nat} {xs : Nat → Int32} {x3 : Int32} {I : MI} {L : ML} {X : Option Unit} {Inv : MI → ML → Nat → Prop} (hp : PR_43 Inv) (hc : Cx G code RL ret 14 552) (hX : LX G b Ls xs rm c s) (h1 : vp_in (x3 + 1) Ls) (h2 : vp_in (x3 + 2) Ls) (h3 : vp_in (x3 + 3) Ls) (h4 : vp_in (x3 + 4) Ls) (h5 : vp_in (x3 + 5) Ls) (hInv : Inv I L rm) (hrm : rm ≤ 5040) (hcb : c + 20 ≤ 600000) (hsb : s + 90748 ≤ 7302250)
    (kk : ∀ (G : GT Unit) (rm1 c1 s1 : Nat) (I2 : MI) (L2 : ML), Cx G code RL ret 14 552 → LX G b Ls xs rm1 c1 s1 → Inv I2 L2 rm1 → RS rm rm1 → c1 = c + mcA rm rm1 → s1 = s + msA rm rm1 → WW G 2377 [(0, .ref 4000000), (1, .ref 0), (2, .ref 43), (3, .int x3)] [] I2 L2 X) : WW G 1845 [(0, .ref 4000000), (1, .ref 0), (2, .ref 43), (3, .int x3)] [] I L X := by
  obtain ⟨r, I1, L1, rm1, e1, hrs, I2, L2, e2, hI2⟩ := hp I L rm (xs (ix (x3 + 1))) (xs (ix (x3 + 2))) hInv
  refine w_aload_n (q := 1846) (i := 1) (j := 1) hc dL_law_1845 rfl rfl rfl ?_
  refine w_aload_n (q := 1847) (i := 0) (j := 0) hc dL_law_1846 rfl rfl rfl ?_
  refine w_iload_n (q := 1848) (i := 3) (j := 3) hc dL_law_1847 rfl rfl rfl ?_
  refine w_iconst (q := 1849) hc dL_law_1848 ci_1 rfl ?_
  refine w_iadd (q := 1850) hc dL_law_1849 rfl ?_
  refine w_sld4 (q := 1851) hc hX dL_law_1850 h1 rfl ?_
  refine w_aload_n (q := 1852) (i := 0) (j := 0) hc dL_law_1851 rfl rfl rfl ?_
  refine w_iload_n (q := 1853) (i := 3) (j := 3) hc dL_law_1852 rfl rfl rfl ?_
  refine w_iconst (q := 1854) hc dL_law_1853 ci_2 rfl ?_
  refine w_iadd (q := 1855) hc dL_law_1854 rfl ?_
  refine w_sld4 (q := 1856) hc hX dL_law_1855 h2 rfl ?_
  refine w_lawA (x := ((r, I1, L1), rm1)) (q := 1859) (st := []) (args := [.int (xs (ix (x3 + 1))), .int (xs (ix (x3 + 2)))]) (p := 0) e1 hc hX m_X7_brings dL_law_1856 ml_L_199 cf_X7_brings iv_X7_brings (k_0 hX.1) (C := RX7) (T := TX7) (N := 7) rfl rfl (by decide) rfl rfl (Nat.le_of_ble_eq_true rfl) ⟨Nat.le_of_ble_eq_true rfl, Nat.le_of_ble_eq_true rfl⟩ rfl rfl (hrs.le hrm) hcb hsb rfl (fun G hc hX => ?_)
  show WW G 1859 [(0, .ref 4000000), (1, .ref 0), (2, .ref 43), (3, .int x3)] [.int r] I1 L1 X
  refine w_aload_n (q := 1860) (i := 2) (j := 2) hc dL_law_1859 rfl rfl rfl ?_
  refine w_aload_n (q := 1861) (i := 0) (j := 0) hc dL_law_1860 rfl rfl rfl ?_
  refine w_iload_n (q := 1862) (i := 3) (j := 3) hc dL_law_1861 rfl rfl rfl ?_
  refine w_iconst (q := 1863) hc dL_law_1862 ci_1 rfl ?_
  refine w_iadd (q := 1864) hc dL_law_1863 rfl ?_
  refine w_sld4 (q := 1865) hc hX dL_law_1864 h1 rfl ?_
  refine w_aload_n (q := 1866) (i := 0) (j := 0) hc dL_law_1865 rfl rfl rfl ?_
  refine w_iload_n (q := 1867) (i := 3) (j := 3) hc dL_law_1866 rfl rfl rfl ?_
  refine w_iconst (q := 1868) hc dL_law_1867 ci_2 rfl ?_
  refine w_iadd (q := 1869) hc dL_law_1868 rfl ?_
  refine w_sld4 (q := 1870) hc hX dL_law_1869 h2 rfl ?_
  refine w_lawV (x := (r, I2, L2)) (q := 1873) (st := [.int r]) (args := [.int (xs (ix (x3 + 1))), .int (xs (ix (x3 + 2)))]) (p := 43) e2 hc (m_X8_brings hX.1 hX.2.1) dL_law_1870 ml_L_202 cf_X8_brings iv_X8_brings (k_43 hX.1) (C := RX8) (T := TX8) (N := 45) rfl rfl (by decide) rfl rfl (Nat.le_of_ble_eq_true rfl) ⟨Nat.le_of_ble_eq_true rfl, Nat.le_of_ble_eq_true rfl⟩ rfl ?_
  show WW G 1873 [(0, .ref 4000000), (1, .ref 0), (2, .ref 43), (3, .int x3)] [.int r, .int r] I2 L2 X
  refine w_icmpeqT (tgt := 2377) hc dL_law_1873 rfl ?_
  exact kk G rm1 _ _ I2 L2 hc hX hI2 hrs rfl rfl
/-- block -/
def PR_44 (Inv : MI → ML → Nat → Prop) : Prop := ∀ (I : MI) (L : ML) (rm : Nat) (a0 : Int32) (a1 : Int32), Inv I L rm → ∃ (r : Int32) (I1 : MI) (L1 : ML), f_X7_block a0 a1 I L = some (r, I1, L1) ∧ ∃ (I2 : MI) (L2 : ML), f_X8_block a0 a1 I1 L1 = some (r, I2, L2) ∧ Inv I2 L2 rm
set_option maxRecDepth 100000 in
set_option maxHeartbeats 4000000 in
theorem lc_44 {G : GT Unit} {b Ls rm c s : Nat} {xs : Nat → Int32} {x3 : Int32} {I : MI} {L : ML} {X : Option Unit} {Inv : MI → ML → Nat → Prop} (hp : PR_44 Inv) (hc : Cx G code RL ret 14 552) (hX : LX G b Ls xs rm c s) (h1 : vp_in (x3 + 1) Ls) (h2 : vp_in (x3 + 2) Ls) (h3 : vp_in (x3 + 3) Ls) (h4 : vp_in (x3 + 4) Ls) (h5 : vp_in (x3 + 5) Ls) (hInv : Inv I L rm) (hrm : rm ≤ 5040) (hcb : c + 20 ≤ 600000) (hsb : s + 90748 ≤ 7302250)
    (kk : ∀ (G : GT Unit) (rm1 c1 s1 : Nat) (I2 : MI) (L2 : ML), Cx G code RL ret 14 552 → LX G b Ls xs rm1 c1 s1 → Inv I2 L2 rm1 → RS rm rm1 → c1 = c + mcA rm rm1 → s1 = s + msA rm rm1 → WW G 2377 [(0, .ref 4000000), (1, .ref 0), (2, .ref 43), (3, .int x3)] [] I2 L2 X) : WW G 1878 [(0, .ref 4000000), (1, .ref 0), (2, .ref 43), (3, .int x3)] [] I L X := by
  obtain ⟨r, I1, L1, e1, I2, L2, e2, hI2⟩ := hp I L rm (xs (ix (x3 + 1))) (xs (ix (x3 + 2))) hInv
  refine w_aload_n (q := 1879) (i := 1) (j := 1) hc dL_law_1878 rfl rfl rfl ?_
  refine w_aload_n (q := 1880) (i := 0) (j := 0) hc dL_law_1879 rfl rfl rfl ?_
  refine w_iload_n (q := 1881) (i := 3) (j := 3) hc dL_law_1880 rfl rfl rfl ?_
  refine w_iconst (q := 1882) hc dL_law_1881 ci_1 rfl ?_
  refine w_iadd (q := 1883) hc dL_law_1882 rfl ?_
  refine w_sld4 (q := 1884) hc hX dL_law_1883 h1 rfl ?_
  refine w_aload_n (q := 1885) (i := 0) (j := 0) hc dL_law_1884 rfl rfl rfl ?_
  refine w_iload_n (q := 1886) (i := 3) (j := 3) hc dL_law_1885 rfl rfl rfl ?_
  refine w_iconst (q := 1887) hc dL_law_1886 ci_2 rfl ?_
  refine w_iadd (q := 1888) hc dL_law_1887 rfl ?_
  refine w_sld4 (q := 1889) hc hX dL_law_1888 h2 rfl ?_
  refine w_lawV (x := (r, I1, L1)) (q := 1892) (st := []) (args := [.int (xs (ix (x3 + 1))), .int (xs (ix (x3 + 2)))]) (p := 0) e1 hc (m_X7_block hX.1 hX.2.1) dL_law_1889 ml_L_203 cf_X7_block iv_X7_block (k_0 hX.1) (C := RX7) (T := TX7) (N := 7) rfl rfl (by decide) rfl rfl (Nat.le_of_ble_eq_true rfl) ⟨Nat.le_of_ble_eq_true rfl, Nat.le_of_ble_eq_true rfl⟩ rfl ?_
  show WW G 1892 [(0, .ref 4000000), (1, .ref 0), (2, .ref 43), (3, .int x3)] [.int r] I1 L1 X
  refine w_aload_n (q := 1893) (i := 2) (j := 2) hc dL_law_1892 rfl rfl rfl ?_
  refine w_aload_n (q := 1894) (i := 0) (j := 0) hc dL_law_1893 rfl rfl rfl ?_
  refine w_iload_n (q := 1895) (i := 3) (j := 3) hc dL_law_1894 rfl rfl rfl ?_
  refine w_iconst (q := 1896) hc dL_law_1895 ci_1 rfl ?_
  refine w_iadd (q := 1897) hc dL_law_1896 rfl ?_
  refine w_sld4 (q := 1898) hc hX dL_law_1897 h1 rfl ?_
  refine w_aload_n (q := 1899) (i := 0) (j := 0) hc dL_law_1898 rfl rfl rfl ?_
  refine w_iload_n (q := 1900) (i := 3) (j := 3) hc dL_law_1899 rfl rfl rfl ?_
  refine w_iconst (q := 1901) hc dL_law_1900 ci_2 rfl ?_
  refine w_iadd (q := 1902) hc dL_law_1901 rfl ?_
  refine w_sld4 (q := 1903) hc hX dL_law_1902 h2 rfl ?_
  refine w_lawV (x := (r, I2, L2)) (q := 1906) (st := [.int r]) (args := [.int (xs (ix (x3 + 1))), .int (xs (ix (x3 + 2)))]) (p := 43) e2 hc (m_X8_block hX.1 hX.2.1) dL_law_1903 ml_L_206 cf_X8_block iv_X8_block (k_43 hX.1) (C := RX8) (T := TX8) (N := 45) rfl rfl (by decide) rfl rfl (Nat.le_of_ble_eq_true rfl) ⟨Nat.le_of_ble_eq_true rfl, Nat.le_of_ble_eq_true rfl⟩ rfl ?_
  show WW G 1906 [(0, .ref 4000000), (1, .ref 0), (2, .ref 43), (3, .int x3)] [.int r, .int r] I2 L2 X
  refine w_icmpeqT (tgt := 2377) hc dL_law_1906 rfl ?_
  exact kk G rm c s I2 L2 hc hX hI2 (Or.inl rfl) (by rw [mcA_0]; rfl) (by rw [msA_0]; rfl)
/-- anywhere -/
def PR_45 (Inv : MI → ML → Nat → Prop) : Prop := ∀ (I : MI) (L : ML) (rm : Nat), Inv I L rm → ∃ (r : Int32) (I1 : MI) (L1 : ML), f_X7_anywhere I L = some (r, I1, L1) ∧ ∃ (I2 : MI) (L2 : ML), f_X8_anywhere I1 L1 = some (r, I2, L2) ∧ Inv I2 L2 rm
set_option maxRecDepth 100000 in
set_option maxHeartbeats 4000000 in
theorem lc_45 {G : GT Unit} {b Ls rm c s : Nat} {xs : Nat → Int32} {x3 : Int32} {I : MI} {L : ML} {X : Option Unit} {Inv : MI → ML → Nat → Prop} (hp : PR_45 Inv) (hc : Cx G code RL ret 14 552) (hX : LX G b Ls xs rm c s) (h1 : vp_in (x3 + 1) Ls) (h2 : vp_in (x3 + 2) Ls) (h3 : vp_in (x3 + 3) Ls) (h4 : vp_in (x3 + 4) Ls) (h5 : vp_in (x3 + 5) Ls) (hInv : Inv I L rm) (hrm : rm ≤ 5040) (hcb : c + 20 ≤ 600000) (hsb : s + 90748 ≤ 7302250)
    (kk : ∀ (G : GT Unit) (rm1 c1 s1 : Nat) (I2 : MI) (L2 : ML), Cx G code RL ret 14 552 → LX G b Ls xs rm1 c1 s1 → Inv I2 L2 rm1 → RS rm rm1 → c1 = c + mcA rm rm1 → s1 = s + msA rm rm1 → WW G 2377 [(0, .ref 4000000), (1, .ref 0), (2, .ref 43), (3, .int x3)] [] I2 L2 X) : WW G 1911 [(0, .ref 4000000), (1, .ref 0), (2, .ref 43), (3, .int x3)] [] I L X := by
  obtain ⟨r, I1, L1, e1, I2, L2, e2, hI2⟩ := hp I L rm hInv
  refine w_aload_n (q := 1912) (i := 1) (j := 1) hc dL_law_1911 rfl rfl rfl ?_
  refine w_lawV (x := (r, I1, L1)) (q := 1915) (st := []) (args := []) (p := 0) e1 hc (m_X7_anywhere hX.1 hX.2.1) dL_law_1912 ml_L_207 cf_X7_anywhere iv_X7_anywhere (k_0 hX.1) (C := RX7) (T := TX7) (N := 7) rfl rfl (by decide) rfl rfl (Nat.le_of_ble_eq_true rfl) ⟨Nat.le_of_ble_eq_true rfl, Nat.le_of_ble_eq_true rfl⟩ rfl ?_
  show WW G 1915 [(0, .ref 4000000), (1, .ref 0), (2, .ref 43), (3, .int x3)] [.int r] I1 L1 X
  refine w_aload_n (q := 1916) (i := 2) (j := 2) hc dL_law_1915 rfl rfl rfl ?_
  refine w_lawV (x := (r, I2, L2)) (q := 1919) (st := [.int r]) (args := []) (p := 43) e2 hc (m_X8_anywhere hX.1 hX.2.1) dL_law_1916 ml_L_210 cf_X8_anywhere iv_X8_anywhere (k_43 hX.1) (C := RX8) (T := TX8) (N := 45) rfl rfl (by decide) rfl rfl (Nat.le_of_ble_eq_true rfl) ⟨Nat.le_of_ble_eq_true rfl, Nat.le_of_ble_eq_true rfl⟩ rfl ?_
  show WW G 1919 [(0, .ref 4000000), (1, .ref 0), (2, .ref 43), (3, .int x3)] [.int r, .int r] I2 L2 X
  refine w_icmpeqT (tgt := 2377) hc dL_law_1919 rfl ?_
  exact kk G rm c s I2 L2 hc hX hI2 (Or.inl rfl) (by rw [mcA_0]; rfl) (by rw [msA_0]; rfl)
/-- fixing -/
def PR_46 (Inv : MI → ML → Nat → Prop) : Prop := ∀ (I : MI) (L : ML) (rm : Nat) (a0 : Int32), Inv I L rm → ∃ (r : Int32) (I1 : MI) (L1 : ML) (rm1 : Nat), f_X7_fixing rm a0 I L = some ((r, I1, L1), rm1) ∧ RS rm rm1 ∧ ∃ (I2 : MI) (L2 : ML), f_X8_fixing a0 I1 L1 = some (r, I2, L2) ∧ Inv I2 L2 rm1
set_option maxRecDepth 100000 in
set_option maxHeartbeats 4000000 in
theorem lc_46 {G : GT Unit} {b Ls rm c s : Nat} {xs : Nat → Int32} {x3 : Int32} {I : MI} {L : ML} {X : Option Unit} {Inv : MI → ML → Nat → Prop} (hp : PR_46 Inv) (hc : Cx G code RL ret 14 552) (hX : LX G b Ls xs rm c s) (h1 : vp_in (x3 + 1) Ls) (h2 : vp_in (x3 + 2) Ls) (h3 : vp_in (x3 + 3) Ls) (h4 : vp_in (x3 + 4) Ls) (h5 : vp_in (x3 + 5) Ls) (hInv : Inv I L rm) (hrm : rm ≤ 5040) (hcb : c + 20 ≤ 600000) (hsb : s + 90748 ≤ 7302250)
    (kk : ∀ (G : GT Unit) (rm1 c1 s1 : Nat) (I2 : MI) (L2 : ML), Cx G code RL ret 14 552 → LX G b Ls xs rm1 c1 s1 → Inv I2 L2 rm1 → RS rm rm1 → c1 = c + mcA rm rm1 → s1 = s + msA rm rm1 → WW G 2377 [(0, .ref 4000000), (1, .ref 0), (2, .ref 43), (3, .int x3)] [] I2 L2 X) : WW G 1924 [(0, .ref 4000000), (1, .ref 0), (2, .ref 43), (3, .int x3)] [] I L X := by
  obtain ⟨r, I1, L1, rm1, e1, hrs, I2, L2, e2, hI2⟩ := hp I L rm (xs (ix (x3 + 1))) hInv
  refine w_aload_n (q := 1925) (i := 1) (j := 1) hc dL_law_1924 rfl rfl rfl ?_
  refine w_aload_n (q := 1926) (i := 0) (j := 0) hc dL_law_1925 rfl rfl rfl ?_
  refine w_iload_n (q := 1927) (i := 3) (j := 3) hc dL_law_1926 rfl rfl rfl ?_
  refine w_iconst (q := 1928) hc dL_law_1927 ci_1 rfl ?_
  refine w_iadd (q := 1929) hc dL_law_1928 rfl ?_
  refine w_sld4 (q := 1930) hc hX dL_law_1929 h1 rfl ?_
  refine w_lawA (x := ((r, I1, L1), rm1)) (q := 1933) (st := []) (args := [.int (xs (ix (x3 + 1)))]) (p := 0) e1 hc hX m_X7_fixing dL_law_1930 ml_L_211 cf_X7_fixing iv_X7_fixing (k_0 hX.1) (C := RX7) (T := TX7) (N := 7) rfl rfl (by decide) rfl rfl (Nat.le_of_ble_eq_true rfl) ⟨Nat.le_of_ble_eq_true rfl, Nat.le_of_ble_eq_true rfl⟩ rfl rfl (hrs.le hrm) hcb hsb rfl (fun G hc hX => ?_)
  show WW G 1933 [(0, .ref 4000000), (1, .ref 0), (2, .ref 43), (3, .int x3)] [.int r] I1 L1 X
  refine w_aload_n (q := 1934) (i := 2) (j := 2) hc dL_law_1933 rfl rfl rfl ?_
  refine w_aload_n (q := 1935) (i := 0) (j := 0) hc dL_law_1934 rfl rfl rfl ?_
  refine w_iload_n (q := 1936) (i := 3) (j := 3) hc dL_law_1935 rfl rfl rfl ?_
  refine w_iconst (q := 1937) hc dL_law_1936 ci_1 rfl ?_
  refine w_iadd (q := 1938) hc dL_law_1937 rfl ?_
  refine w_sld4 (q := 1939) hc hX dL_law_1938 h1 rfl ?_
  refine w_lawV (x := (r, I2, L2)) (q := 1942) (st := [.int r]) (args := [.int (xs (ix (x3 + 1)))]) (p := 43) e2 hc (m_X8_fixing hX.1 hX.2.1) dL_law_1939 ml_L_214 cf_X8_fixing iv_X8_fixing (k_43 hX.1) (C := RX8) (T := TX8) (N := 45) rfl rfl (by decide) rfl rfl (Nat.le_of_ble_eq_true rfl) ⟨Nat.le_of_ble_eq_true rfl, Nat.le_of_ble_eq_true rfl⟩ rfl ?_
  show WW G 1942 [(0, .ref 4000000), (1, .ref 0), (2, .ref 43), (3, .int x3)] [.int r, .int r] I2 L2 X
  refine w_icmpeqT (tgt := 2377) hc dL_law_1942 rfl ?_
  exact kk G rm1 _ _ I2 L2 hc hX hI2 hrs rfl rfl
/-- colours -/
def PR_47 (Inv : MI → ML → Nat → Prop) : Prop := ∀ (I : MI) (L : ML) (rm : Nat) (a0 : Int32), Inv I L rm → ∃ (r : Int64) (I1 : MI) (L1 : ML) (rm1 : Nat), f_X7_colours rm a0 I L = some ((r, I1, L1), rm1) ∧ RS rm rm1 ∧ ∃ (I2 : MI) (L2 : ML), f_X8_colours a0 I1 L1 = some (r, I2, L2) ∧ Inv I2 L2 rm1
set_option maxRecDepth 100000 in
set_option maxHeartbeats 4000000 in
theorem lc_47 {G : GT Unit} {b Ls rm c s : Nat} {xs : Nat → Int32} {x3 : Int32} {I : MI} {L : ML} {X : Option Unit} {Inv : MI → ML → Nat → Prop} (hp : PR_47 Inv) (hc : Cx G code RL ret 14 552) (hX : LX G b Ls xs rm c s) (h1 : vp_in (x3 + 1) Ls) (h2 : vp_in (x3 + 2) Ls) (h3 : vp_in (x3 + 3) Ls) (h4 : vp_in (x3 + 4) Ls) (h5 : vp_in (x3 + 5) Ls) (hInv : Inv I L rm) (hrm : rm ≤ 5040) (hcb : c + 20 ≤ 600000) (hsb : s + 90748 ≤ 7302250)
    (kk : ∀ (G : GT Unit) (rm1 c1 s1 : Nat) (I2 : MI) (L2 : ML), Cx G code RL ret 14 552 → LX G b Ls xs rm1 c1 s1 → Inv I2 L2 rm1 → RS rm rm1 → c1 = c + mcA rm rm1 → s1 = s + msA rm rm1 → WW G 2377 [(0, .ref 4000000), (1, .ref 0), (2, .ref 43), (3, .int x3)] [] I2 L2 X) : WW G 1947 [(0, .ref 4000000), (1, .ref 0), (2, .ref 43), (3, .int x3)] [] I L X := by
  obtain ⟨r, I1, L1, rm1, e1, hrs, I2, L2, e2, hI2⟩ := hp I L rm (xs (ix (x3 + 1))) hInv
  refine w_aload_n (q := 1948) (i := 1) (j := 1) hc dL_law_1947 rfl rfl rfl ?_
  refine w_aload_n (q := 1949) (i := 0) (j := 0) hc dL_law_1948 rfl rfl rfl ?_
  refine w_iload_n (q := 1950) (i := 3) (j := 3) hc dL_law_1949 rfl rfl rfl ?_
  refine w_iconst (q := 1951) hc dL_law_1950 ci_1 rfl ?_
  refine w_iadd (q := 1952) hc dL_law_1951 rfl ?_
  refine w_sld4 (q := 1953) hc hX dL_law_1952 h1 rfl ?_
  refine w_lawA (x := ((r, I1, L1), rm1)) (q := 1956) (st := []) (args := [.int (xs (ix (x3 + 1)))]) (p := 0) e1 hc hX m_X7_colours dL_law_1953 ml_L_215 cf_X7_colours iv_X7_colours (k_0 hX.1) (C := RX7) (T := TX7) (N := 7) rfl rfl (by decide) rfl rfl (Nat.le_of_ble_eq_true rfl) ⟨Nat.le_of_ble_eq_true rfl, Nat.le_of_ble_eq_true rfl⟩ rfl rfl (hrs.le hrm) hcb hsb rfl (fun G hc hX => ?_)
  show WW G 1956 [(0, .ref 4000000), (1, .ref 0), (2, .ref 43), (3, .int x3)] [.long r] I1 L1 X
  refine w_aload_n (q := 1957) (i := 2) (j := 2) hc dL_law_1956 rfl rfl rfl ?_
  refine w_aload_n (q := 1958) (i := 0) (j := 0) hc dL_law_1957 rfl rfl rfl ?_
  refine w_iload_n (q := 1959) (i := 3) (j := 3) hc dL_law_1958 rfl rfl rfl ?_
  refine w_iconst (q := 1960) hc dL_law_1959 ci_1 rfl ?_
  refine w_iadd (q := 1961) hc dL_law_1960 rfl ?_
  refine w_sld4 (q := 1962) hc hX dL_law_1961 h1 rfl ?_
  refine w_lawV (x := (r, I2, L2)) (q := 1965) (st := [.long r]) (args := [.int (xs (ix (x3 + 1)))]) (p := 43) e2 hc (m_X8_colours hX.1 hX.2.1) dL_law_1962 ml_L_218 cf_X8_colours iv_X8_colours (k_43 hX.1) (C := RX8) (T := TX8) (N := 45) rfl rfl (by decide) rfl rfl (Nat.le_of_ble_eq_true rfl) ⟨Nat.le_of_ble_eq_true rfl, Nat.le_of_ble_eq_true rfl⟩ rfl ?_
  show WW G 1965 [(0, .ref 4000000), (1, .ref 0), (2, .ref 43), (3, .int x3)] [.long r, .long r] I2 L2 X
  refine w_lcmp (q := 1966) hc dL_law_1965 rfl ?_
  rw [lg_self]
  refine w_ifeqT (tgt := 2377) hc dL_law_1966 rfl rfl ?_
  exact kk G rm1 _ _ I2 L2 hc hX hI2 hrs rfl rfl
/-- typed -/
def PR_48 (Inv : MI → ML → Nat → Prop) : Prop := ∀ (I : MI) (L : ML) (rm : Nat) (a0 : Int64), Inv I L rm → ∃ (r : Int32) (I1 : MI) (L1 : ML) (rm1 : Nat), f_X7_typed rm a0 I L = some ((r, I1, L1), rm1) ∧ RS rm rm1 ∧ ∃ (I2 : MI) (L2 : ML), f_X8_typed a0 I1 L1 = some (r, I2, L2) ∧ Inv I2 L2 rm1
set_option maxRecDepth 100000 in
set_option maxHeartbeats 4000000 in
theorem lc_48 {G : GT Unit} {b Ls rm c s : Nat} {xs : Nat → Int32} {x3 : Int32} {I : MI} {L : ML} {X : Option Unit} {Inv : MI → ML → Nat → Prop} (hp : PR_48 Inv) (hc : Cx G code RL ret 14 552) (hX : LX G b Ls xs rm c s) (h1 : vp_in (x3 + 1) Ls) (h2 : vp_in (x3 + 2) Ls) (h3 : vp_in (x3 + 3) Ls) (h4 : vp_in (x3 + 4) Ls) (h5 : vp_in (x3 + 5) Ls) (hInv : Inv I L rm) (hrm : rm ≤ 5040) (hcb : c + 20 ≤ 600000) (hsb : s + 90748 ≤ 7302250)
    (kk : ∀ (G : GT Unit) (rm1 c1 s1 : Nat) (I2 : MI) (L2 : ML), Cx G code RL ret 14 552 → LX G b Ls xs rm1 c1 s1 → Inv I2 L2 rm1 → RS rm rm1 → c1 = c + mcA rm rm1 → s1 = s + msA rm rm1 → WW G 2377 [(0, .ref 4000000), (1, .ref 0), (2, .ref 43), (3, .int x3)] [] I2 L2 X) : WW G 1971 [(0, .ref 4000000), (1, .ref 0), (2, .ref 43), (3, .int x3)] [] I L X := by
  obtain ⟨r, I1, L1, rm1, e1, hrs, I2, L2, e2, hI2⟩ := hp I L rm ((lshl (Int32.toInt64 (xs (ix (x3 + 1)))) 32) ||| ((Int32.toInt64 (xs (ix (x3 + 2)))) &&& 4294967295)) hInv
  refine w_aload_n (q := 1972) (i := 1) (j := 1) hc dL_law_1971 rfl rfl rfl ?_
  refine w_aload_n (q := 1973) (i := 0) (j := 0) hc dL_law_1972 rfl rfl rfl ?_
  refine w_iload_n (q := 1974) (i := 3) (j := 3) hc dL_law_1973 rfl rfl rfl ?_
  refine w_iconst (q := 1975) hc dL_law_1974 ci_1 rfl ?_
  refine w_iadd (q := 1976) hc dL_law_1975 rfl ?_
  refine w_sld4 (q := 1977) hc hX dL_law_1976 h1 rfl ?_
  refine w_i2l (q := 1978) hc dL_law_1977 rfl ?_
  refine w_bipush (q := 1980) hc dL_law_1978 cb_32 rfl ?_
  refine w_lshl (q := 1981) hc dL_law_1980 rfl ?_
  refine w_aload_n (q := 1982) (i := 0) (j := 0) hc dL_law_1981 rfl rfl rfl ?_
  refine w_iload_n (q := 1983) (i := 3) (j := 3) hc dL_law_1982 rfl rfl rfl ?_
  refine w_iconst (q := 1984) hc dL_law_1983 ci_2 rfl ?_
  refine w_iadd (q := 1985) hc dL_law_1984 rfl ?_
  refine w_sld4 (q := 1986) hc hX dL_law_1985 h2 rfl ?_
  refine w_i2l (q := 1987) hc dL_law_1986 rfl ?_
  refine w_ldc2 (q := 1990) hc dL_law_1987 kl_L_46 rfl ?_
  refine w_land (q := 1991) hc dL_law_1990 rfl ?_
  refine w_lor (q := 1992) hc dL_law_1991 rfl ?_
  refine w_lawA (x := ((r, I1, L1), rm1)) (q := 1995) (st := []) (args := [.long ((lshl (Int32.toInt64 (xs (ix (x3 + 1)))) 32) ||| ((Int32.toInt64 (xs (ix (x3 + 2)))) &&& 4294967295))]) (p := 0) e1 hc hX m_X7_typed dL_law_1992 ml_L_219 cf_X7_typed iv_X7_typed (k_0 hX.1) (C := RX7) (T := TX7) (N := 7) rfl rfl (by decide) rfl rfl (Nat.le_of_ble_eq_true rfl) ⟨Nat.le_of_ble_eq_true rfl, Nat.le_of_ble_eq_true rfl⟩ rfl rfl (hrs.le hrm) hcb hsb rfl (fun G hc hX => ?_)
  show WW G 1995 [(0, .ref 4000000), (1, .ref 0), (2, .ref 43), (3, .int x3)] [.int r] I1 L1 X
  refine w_aload_n (q := 1996) (i := 2) (j := 2) hc dL_law_1995 rfl rfl rfl ?_
  refine w_aload_n (q := 1997) (i := 0) (j := 0) hc dL_law_1996 rfl rfl rfl ?_
  refine w_iload_n (q := 1998) (i := 3) (j := 3) hc dL_law_1997 rfl rfl rfl ?_
  refine w_iconst (q := 1999) hc dL_law_1998 ci_1 rfl ?_
  refine w_iadd (q := 2000) hc dL_law_1999 rfl ?_
  refine w_sld4 (q := 2001) hc hX dL_law_2000 h1 rfl ?_
  refine w_i2l (q := 2002) hc dL_law_2001 rfl ?_
  refine w_bipush (q := 2004) hc dL_law_2002 cb_32 rfl ?_
  refine w_lshl (q := 2005) hc dL_law_2004 rfl ?_
  refine w_aload_n (q := 2006) (i := 0) (j := 0) hc dL_law_2005 rfl rfl rfl ?_
  refine w_iload_n (q := 2007) (i := 3) (j := 3) hc dL_law_2006 rfl rfl rfl ?_
  refine w_iconst (q := 2008) hc dL_law_2007 ci_2 rfl ?_
  refine w_iadd (q := 2009) hc dL_law_2008 rfl ?_
  refine w_sld4 (q := 2010) hc hX dL_law_2009 h2 rfl ?_
  refine w_i2l (q := 2011) hc dL_law_2010 rfl ?_
  refine w_ldc2 (q := 2014) hc dL_law_2011 kl_L_46 rfl ?_
  refine w_land (q := 2015) hc dL_law_2014 rfl ?_
  refine w_lor (q := 2016) hc dL_law_2015 rfl ?_
  refine w_lawV (x := (r, I2, L2)) (q := 2019) (st := [.int r]) (args := [.long ((lshl (Int32.toInt64 (xs (ix (x3 + 1)))) 32) ||| ((Int32.toInt64 (xs (ix (x3 + 2)))) &&& 4294967295))]) (p := 43) e2 hc (m_X8_typed hX.1 hX.2.1) dL_law_2016 ml_L_222 cf_X8_typed iv_X8_typed (k_43 hX.1) (C := RX8) (T := TX8) (N := 45) rfl rfl (by decide) rfl rfl (Nat.le_of_ble_eq_true rfl) ⟨Nat.le_of_ble_eq_true rfl, Nat.le_of_ble_eq_true rfl⟩ rfl ?_
  show WW G 2019 [(0, .ref 4000000), (1, .ref 0), (2, .ref 43), (3, .int x3)] [.int r, .int r] I2 L2 X
  refine w_icmpeqT (tgt := 2377) hc dL_law_2019 rfl ?_
  exact kk G rm1 _ _ I2 L2 hc hX hI2 hrs rfl rfl
/-- root -/
def PR_49 (Inv : MI → ML → Nat → Prop) : Prop := ∀ (I : MI) (L : ML) (rm : Nat) (a0 : Int64) (a1 : Int32), Inv I L rm → ∃ (r : Int32) (I1 : MI) (L1 : ML) (rm1 : Nat), f_X7_root rm a0 a1 I L = some ((r, I1, L1), rm1) ∧ RS rm rm1 ∧ ∃ (I2 : MI) (L2 : ML), f_X8_root a0 a1 I1 L1 = some (r, I2, L2) ∧ Inv I2 L2 rm1
set_option maxRecDepth 100000 in
set_option maxHeartbeats 4000000 in
theorem lc_49 {G : GT Unit} {b Ls rm c s : Nat} {xs : Nat → Int32} {x3 : Int32} {I : MI} {L : ML} {X : Option Unit} {Inv : MI → ML → Nat → Prop} (hp : PR_49 Inv) (hc : Cx G code RL ret 14 552) (hX : LX G b Ls xs rm c s) (h1 : vp_in (x3 + 1) Ls) (h2 : vp_in (x3 + 2) Ls) (h3 : vp_in (x3 + 3) Ls) (h4 : vp_in (x3 + 4) Ls) (h5 : vp_in (x3 + 5) Ls) (hInv : Inv I L rm) (hrm : rm ≤ 5040) (hcb : c + 20 ≤ 600000) (hsb : s + 90748 ≤ 7302250)
    (kk : ∀ (G : GT Unit) (rm1 c1 s1 : Nat) (I2 : MI) (L2 : ML), Cx G code RL ret 14 552 → LX G b Ls xs rm1 c1 s1 → Inv I2 L2 rm1 → RS rm rm1 → c1 = c + mcA rm rm1 → s1 = s + msA rm rm1 → WW G 2377 [(0, .ref 4000000), (1, .ref 0), (2, .ref 43), (3, .int x3)] [] I2 L2 X) : WW G 2024 [(0, .ref 4000000), (1, .ref 0), (2, .ref 43), (3, .int x3)] [] I L X := by
  obtain ⟨r, I1, L1, rm1, e1, hrs, I2, L2, e2, hI2⟩ := hp I L rm ((lshl (Int32.toInt64 (xs (ix (x3 + 1)))) 32) ||| ((Int32.toInt64 (xs (ix (x3 + 2)))) &&& 4294967295)) (xs (ix (x3 + 3))) hInv
  refine w_aload_n (q := 2025) (i := 1) (j := 1) hc dL_law_2024 rfl rfl rfl ?_
  refine w_aload_n (q := 2026) (i := 0) (j := 0) hc dL_law_2025 rfl rfl rfl ?_
  refine w_iload_n (q := 2027) (i := 3) (j := 3) hc dL_law_2026 rfl rfl rfl ?_
  refine w_iconst (q := 2028) hc dL_law_2027 ci_1 rfl ?_
  refine w_iadd (q := 2029) hc dL_law_2028 rfl ?_
  refine w_sld4 (q := 2030) hc hX dL_law_2029 h1 rfl ?_
  refine w_i2l (q := 2031) hc dL_law_2030 rfl ?_
  refine w_bipush (q := 2033) hc dL_law_2031 cb_32 rfl ?_
  refine w_lshl (q := 2034) hc dL_law_2033 rfl ?_
  refine w_aload_n (q := 2035) (i := 0) (j := 0) hc dL_law_2034 rfl rfl rfl ?_
  refine w_iload_n (q := 2036) (i := 3) (j := 3) hc dL_law_2035 rfl rfl rfl ?_
  refine w_iconst (q := 2037) hc dL_law_2036 ci_2 rfl ?_
  refine w_iadd (q := 2038) hc dL_law_2037 rfl ?_
  refine w_sld4 (q := 2039) hc hX dL_law_2038 h2 rfl ?_
  refine w_i2l (q := 2040) hc dL_law_2039 rfl ?_
  refine w_ldc2 (q := 2043) hc dL_law_2040 kl_L_46 rfl ?_
  refine w_land (q := 2044) hc dL_law_2043 rfl ?_
  refine w_lor (q := 2045) hc dL_law_2044 rfl ?_
  refine w_aload_n (q := 2046) (i := 0) (j := 0) hc dL_law_2045 rfl rfl rfl ?_
  refine w_iload_n (q := 2047) (i := 3) (j := 3) hc dL_law_2046 rfl rfl rfl ?_
  refine w_iconst (q := 2048) hc dL_law_2047 ci_3 rfl ?_
  refine w_iadd (q := 2049) hc dL_law_2048 rfl ?_
  refine w_sld4 (q := 2050) hc hX dL_law_2049 h3 rfl ?_
  refine w_lawA (x := ((r, I1, L1), rm1)) (q := 2053) (st := []) (args := [.long ((lshl (Int32.toInt64 (xs (ix (x3 + 1)))) 32) ||| ((Int32.toInt64 (xs (ix (x3 + 2)))) &&& 4294967295)), .int (xs (ix (x3 + 3)))]) (p := 0) e1 hc hX m_X7_root dL_law_2050 ml_L_223 cf_X7_root iv_X7_root (k_0 hX.1) (C := RX7) (T := TX7) (N := 7) rfl rfl (by decide) rfl rfl (Nat.le_of_ble_eq_true rfl) ⟨Nat.le_of_ble_eq_true rfl, Nat.le_of_ble_eq_true rfl⟩ rfl rfl (hrs.le hrm) hcb hsb rfl (fun G hc hX => ?_)
  show WW G 2053 [(0, .ref 4000000), (1, .ref 0), (2, .ref 43), (3, .int x3)] [.int r] I1 L1 X
  refine w_aload_n (q := 2054) (i := 2) (j := 2) hc dL_law_2053 rfl rfl rfl ?_
  refine w_aload_n (q := 2055) (i := 0) (j := 0) hc dL_law_2054 rfl rfl rfl ?_
  refine w_iload_n (q := 2056) (i := 3) (j := 3) hc dL_law_2055 rfl rfl rfl ?_
  refine w_iconst (q := 2057) hc dL_law_2056 ci_1 rfl ?_
  refine w_iadd (q := 2058) hc dL_law_2057 rfl ?_
  refine w_sld4 (q := 2059) hc hX dL_law_2058 h1 rfl ?_
  refine w_i2l (q := 2060) hc dL_law_2059 rfl ?_
  refine w_bipush (q := 2062) hc dL_law_2060 cb_32 rfl ?_
  refine w_lshl (q := 2063) hc dL_law_2062 rfl ?_
  refine w_aload_n (q := 2064) (i := 0) (j := 0) hc dL_law_2063 rfl rfl rfl ?_
  refine w_iload_n (q := 2065) (i := 3) (j := 3) hc dL_law_2064 rfl rfl rfl ?_
  refine w_iconst (q := 2066) hc dL_law_2065 ci_2 rfl ?_
  refine w_iadd (q := 2067) hc dL_law_2066 rfl ?_
  refine w_sld4 (q := 2068) hc hX dL_law_2067 h2 rfl ?_
  refine w_i2l (q := 2069) hc dL_law_2068 rfl ?_
  refine w_ldc2 (q := 2072) hc dL_law_2069 kl_L_46 rfl ?_
  refine w_land (q := 2073) hc dL_law_2072 rfl ?_
  refine w_lor (q := 2074) hc dL_law_2073 rfl ?_
  refine w_aload_n (q := 2075) (i := 0) (j := 0) hc dL_law_2074 rfl rfl rfl ?_
  refine w_iload_n (q := 2076) (i := 3) (j := 3) hc dL_law_2075 rfl rfl rfl ?_
  refine w_iconst (q := 2077) hc dL_law_2076 ci_3 rfl ?_
  refine w_iadd (q := 2078) hc dL_law_2077 rfl ?_
  refine w_sld4 (q := 2079) hc hX dL_law_2078 h3 rfl ?_
  refine w_lawV (x := (r, I2, L2)) (q := 2082) (st := [.int r]) (args := [.long ((lshl (Int32.toInt64 (xs (ix (x3 + 1)))) 32) ||| ((Int32.toInt64 (xs (ix (x3 + 2)))) &&& 4294967295)), .int (xs (ix (x3 + 3)))]) (p := 43) e2 hc (m_X8_root hX.1 hX.2.1) dL_law_2079 ml_L_226 cf_X8_root iv_X8_root (k_43 hX.1) (C := RX8) (T := TX8) (N := 45) rfl rfl (by decide) rfl rfl (Nat.le_of_ble_eq_true rfl) ⟨Nat.le_of_ble_eq_true rfl, Nat.le_of_ble_eq_true rfl⟩ rfl ?_
  show WW G 2082 [(0, .ref 4000000), (1, .ref 0), (2, .ref 43), (3, .int x3)] [.int r, .int r] I2 L2 X
  refine w_icmpeqT (tgt := 2377) hc dL_law_2082 rfl ?_
  exact kk G rm1 _ _ I2 L2 hc hX hI2 hrs rfl rfl
/-- slightest -/
def PR_50 (Inv : MI → ML → Nat → Prop) : Prop := ∀ (I : MI) (L : ML) (rm : Nat), Inv I L rm → ∃ (r : Int32) (I1 : MI) (L1 : ML) (rm1 : Nat), f_X7_slightest rm I L = some ((r, I1, L1), rm1) ∧ RS rm rm1 ∧ ∃ (I2 : MI) (L2 : ML), f_X8_slightest I1 L1 = some (r, I2, L2) ∧ Inv I2 L2 rm1
set_option maxRecDepth 100000 in
set_option maxHeartbeats 4000000 in
theorem lc_50 {G : GT Unit} {b Ls rm c s : Nat} {xs : Nat → Int32} {x3 : Int32} {I : MI} {L : ML} {X : Option Unit} {Inv : MI → ML → Nat → Prop} (hp : PR_50 Inv) (hc : Cx G code RL ret 14 552) (hX : LX G b Ls xs rm c s) (h1 : vp_in (x3 + 1) Ls) (h2 : vp_in (x3 + 2) Ls) (h3 : vp_in (x3 + 3) Ls) (h4 : vp_in (x3 + 4) Ls) (h5 : vp_in (x3 + 5) Ls) (hInv : Inv I L rm) (hrm : rm ≤ 5040) (hcb : c + 20 ≤ 600000) (hsb : s + 90748 ≤ 7302250)
    (kk : ∀ (G : GT Unit) (rm1 c1 s1 : Nat) (I2 : MI) (L2 : ML), Cx G code RL ret 14 552 → LX G b Ls xs rm1 c1 s1 → Inv I2 L2 rm1 → RS rm rm1 → c1 = c + mcA rm rm1 → s1 = s + msA rm rm1 → WW G 2377 [(0, .ref 4000000), (1, .ref 0), (2, .ref 43), (3, .int x3)] [] I2 L2 X) : WW G 2087 [(0, .ref 4000000), (1, .ref 0), (2, .ref 43), (3, .int x3)] [] I L X := by
  obtain ⟨r, I1, L1, rm1, e1, hrs, I2, L2, e2, hI2⟩ := hp I L rm hInv
  refine w_aload_n (q := 2088) (i := 1) (j := 1) hc dL_law_2087 rfl rfl rfl ?_
  refine w_lawA (x := ((r, I1, L1), rm1)) (q := 2091) (st := []) (args := []) (p := 0) e1 hc hX m_X7_slightest dL_law_2088 ml_L_227 cf_X7_slightest iv_X7_slightest (k_0 hX.1) (C := RX7) (T := TX7) (N := 7) rfl rfl (by decide) rfl rfl (Nat.le_of_ble_eq_true rfl) ⟨Nat.le_of_ble_eq_true rfl, Nat.le_of_ble_eq_true rfl⟩ rfl rfl (hrs.le hrm) hcb hsb rfl (fun G hc hX => ?_)
  show WW G 2091 [(0, .ref 4000000), (1, .ref 0), (2, .ref 43), (3, .int x3)] [.int r] I1 L1 X
  refine w_aload_n (q := 2092) (i := 2) (j := 2) hc dL_law_2091 rfl rfl rfl ?_
  refine w_lawV (x := (r, I2, L2)) (q := 2095) (st := [.int r]) (args := []) (p := 43) e2 hc (m_X8_slightest hX.1 hX.2.1) dL_law_2092 ml_L_230 cf_X8_slightest iv_X8_slightest (k_43 hX.1) (C := RX8) (T := TX8) (N := 45) rfl rfl (by decide) rfl rfl (Nat.le_of_ble_eq_true rfl) ⟨Nat.le_of_ble_eq_true rfl, Nat.le_of_ble_eq_true rfl⟩ rfl ?_
  show WW G 2095 [(0, .ref 4000000), (1, .ref 0), (2, .ref 43), (3, .int x3)] [.int r, .int r] I2 L2 X
  refine w_icmpeqT (tgt := 2377) hc dL_law_2095 rfl ?_
  exact kk G rm1 _ _ I2 L2 hc hX hI2 hrs rfl rfl
/-- ofOrder -/
def PR_51 (Inv : MI → ML → Nat → Prop) : Prop := ∀ (I : MI) (L : ML) (rm : Nat) (a0 : Int32), Inv I L rm → ∃ (r : Int32) (I1 : MI) (L1 : ML) (rm1 : Nat), f_X7_ofOrder rm a0 I L = some ((r, I1, L1), rm1) ∧ RS rm rm1 ∧ ∃ (I2 : MI) (L2 : ML), f_X8_ofOrder a0 I1 L1 = some (r, I2, L2) ∧ Inv I2 L2 rm1
set_option maxRecDepth 100000 in
set_option maxHeartbeats 4000000 in
theorem lc_51 {G : GT Unit} {b Ls rm c s : Nat} {xs : Nat → Int32} {x3 : Int32} {I : MI} {L : ML} {X : Option Unit} {Inv : MI → ML → Nat → Prop} (hp : PR_51 Inv) (hc : Cx G code RL ret 14 552) (hX : LX G b Ls xs rm c s) (h1 : vp_in (x3 + 1) Ls) (h2 : vp_in (x3 + 2) Ls) (h3 : vp_in (x3 + 3) Ls) (h4 : vp_in (x3 + 4) Ls) (h5 : vp_in (x3 + 5) Ls) (hInv : Inv I L rm) (hrm : rm ≤ 5040) (hcb : c + 20 ≤ 600000) (hsb : s + 90748 ≤ 7302250)
    (kk : ∀ (G : GT Unit) (rm1 c1 s1 : Nat) (I2 : MI) (L2 : ML), Cx G code RL ret 14 552 → LX G b Ls xs rm1 c1 s1 → Inv I2 L2 rm1 → RS rm rm1 → c1 = c + mcA rm rm1 → s1 = s + msA rm rm1 → WW G 2377 [(0, .ref 4000000), (1, .ref 0), (2, .ref 43), (3, .int x3)] [] I2 L2 X) : WW G 2100 [(0, .ref 4000000), (1, .ref 0), (2, .ref 43), (3, .int x3)] [] I L X := by
  obtain ⟨r, I1, L1, rm1, e1, hrs, I2, L2, e2, hI2⟩ := hp I L rm (xs (ix (x3 + 1))) hInv
  refine w_aload_n (q := 2101) (i := 1) (j := 1) hc dL_law_2100 rfl rfl rfl ?_
  refine w_aload_n (q := 2102) (i := 0) (j := 0) hc dL_law_2101 rfl rfl rfl ?_
  refine w_iload_n (q := 2103) (i := 3) (j := 3) hc dL_law_2102 rfl rfl rfl ?_
  refine w_iconst (q := 2104) hc dL_law_2103 ci_1 rfl ?_
  refine w_iadd (q := 2105) hc dL_law_2104 rfl ?_
  refine w_sld4 (q := 2106) hc hX dL_law_2105 h1 rfl ?_
  refine w_lawA (x := ((r, I1, L1), rm1)) (q := 2109) (st := []) (args := [.int (xs (ix (x3 + 1)))]) (p := 0) e1 hc hX m_X7_ofOrder dL_law_2106 ml_L_231 cf_X7_ofOrder iv_X7_ofOrder (k_0 hX.1) (C := RX7) (T := TX7) (N := 7) rfl rfl (by decide) rfl rfl (Nat.le_of_ble_eq_true rfl) ⟨Nat.le_of_ble_eq_true rfl, Nat.le_of_ble_eq_true rfl⟩ rfl rfl (hrs.le hrm) hcb hsb rfl (fun G hc hX => ?_)
  show WW G 2109 [(0, .ref 4000000), (1, .ref 0), (2, .ref 43), (3, .int x3)] [.int r] I1 L1 X
  refine w_aload_n (q := 2110) (i := 2) (j := 2) hc dL_law_2109 rfl rfl rfl ?_
  refine w_aload_n (q := 2111) (i := 0) (j := 0) hc dL_law_2110 rfl rfl rfl ?_
  refine w_iload_n (q := 2112) (i := 3) (j := 3) hc dL_law_2111 rfl rfl rfl ?_
  refine w_iconst (q := 2113) hc dL_law_2112 ci_1 rfl ?_
  refine w_iadd (q := 2114) hc dL_law_2113 rfl ?_
  refine w_sld4 (q := 2115) hc hX dL_law_2114 h1 rfl ?_
  refine w_lawV (x := (r, I2, L2)) (q := 2118) (st := [.int r]) (args := [.int (xs (ix (x3 + 1)))]) (p := 43) e2 hc (m_X8_ofOrder hX.1 hX.2.1) dL_law_2115 ml_L_234 cf_X8_ofOrder iv_X8_ofOrder (k_43 hX.1) (C := RX8) (T := TX8) (N := 45) rfl rfl (by decide) rfl rfl (Nat.le_of_ble_eq_true rfl) ⟨Nat.le_of_ble_eq_true rfl, Nat.le_of_ble_eq_true rfl⟩ rfl ?_
  show WW G 2118 [(0, .ref 4000000), (1, .ref 0), (2, .ref 43), (3, .int x3)] [.int r, .int r] I2 L2 X
  refine w_icmpeqT (tgt := 2377) hc dL_law_2118 rfl ?_
  exact kk G rm1 _ _ I2 L2 hc hX hI2 hrs rfl rfl
/-- turn -/
def PR_52 (Inv : MI → ML → Nat → Prop) : Prop := ∀ (I : MI) (L : ML) (rm : Nat) (a0 : Int32), Inv I L rm → ∃ (r : Int32) (I1 : MI) (L1 : ML), f_X7_turn a0 I L = some (r, I1, L1) ∧ ∃ (I2 : MI) (L2 : ML), f_X8_turn a0 I1 L1 = some (r, I2, L2) ∧ Inv I2 L2 rm
set_option maxRecDepth 100000 in
set_option maxHeartbeats 4000000 in
theorem lc_52 {G : GT Unit} {b Ls rm c s : Nat} {xs : Nat → Int32} {x3 : Int32} {I : MI} {L : ML} {X : Option Unit} {Inv : MI → ML → Nat → Prop} (hp : PR_52 Inv) (hc : Cx G code RL ret 14 552) (hX : LX G b Ls xs rm c s) (h1 : vp_in (x3 + 1) Ls) (h2 : vp_in (x3 + 2) Ls) (h3 : vp_in (x3 + 3) Ls) (h4 : vp_in (x3 + 4) Ls) (h5 : vp_in (x3 + 5) Ls) (hInv : Inv I L rm) (hrm : rm ≤ 5040) (hcb : c + 20 ≤ 600000) (hsb : s + 90748 ≤ 7302250)
    (kk : ∀ (G : GT Unit) (rm1 c1 s1 : Nat) (I2 : MI) (L2 : ML), Cx G code RL ret 14 552 → LX G b Ls xs rm1 c1 s1 → Inv I2 L2 rm1 → RS rm rm1 → c1 = c + mcA rm rm1 → s1 = s + msA rm rm1 → WW G 2377 [(0, .ref 4000000), (1, .ref 0), (2, .ref 43), (3, .int x3)] [] I2 L2 X) : WW G 2123 [(0, .ref 4000000), (1, .ref 0), (2, .ref 43), (3, .int x3)] [] I L X := by
  obtain ⟨r, I1, L1, e1, I2, L2, e2, hI2⟩ := hp I L rm (xs (ix (x3 + 1))) hInv
  refine w_aload_n (q := 2124) (i := 1) (j := 1) hc dL_law_2123 rfl rfl rfl ?_
  refine w_aload_n (q := 2125) (i := 0) (j := 0) hc dL_law_2124 rfl rfl rfl ?_
  refine w_iload_n (q := 2126) (i := 3) (j := 3) hc dL_law_2125 rfl rfl rfl ?_
  refine w_iconst (q := 2127) hc dL_law_2126 ci_1 rfl ?_
  refine w_iadd (q := 2128) hc dL_law_2127 rfl ?_
  refine w_sld4 (q := 2129) hc hX dL_law_2128 h1 rfl ?_
  refine w_lawV (x := (r, I1, L1)) (q := 2132) (st := []) (args := [.int (xs (ix (x3 + 1)))]) (p := 0) e1 hc (m_X7_turn hX.1 hX.2.1) dL_law_2129 ml_L_235 cf_X7_turn iv_X7_turn (k_0 hX.1) (C := RX7) (T := TX7) (N := 7) rfl rfl (by decide) rfl rfl (Nat.le_of_ble_eq_true rfl) ⟨Nat.le_of_ble_eq_true rfl, Nat.le_of_ble_eq_true rfl⟩ rfl ?_
  show WW G 2132 [(0, .ref 4000000), (1, .ref 0), (2, .ref 43), (3, .int x3)] [.int r] I1 L1 X
  refine w_aload_n (q := 2133) (i := 2) (j := 2) hc dL_law_2132 rfl rfl rfl ?_
  refine w_aload_n (q := 2134) (i := 0) (j := 0) hc dL_law_2133 rfl rfl rfl ?_
  refine w_iload_n (q := 2135) (i := 3) (j := 3) hc dL_law_2134 rfl rfl rfl ?_
  refine w_iconst (q := 2136) hc dL_law_2135 ci_1 rfl ?_
  refine w_iadd (q := 2137) hc dL_law_2136 rfl ?_
  refine w_sld4 (q := 2138) hc hX dL_law_2137 h1 rfl ?_
  refine w_lawV (x := (r, I2, L2)) (q := 2141) (st := [.int r]) (args := [.int (xs (ix (x3 + 1)))]) (p := 43) e2 hc (m_X8_turn hX.1 hX.2.1) dL_law_2138 ml_L_238 cf_X8_turn iv_X8_turn (k_43 hX.1) (C := RX8) (T := TX8) (N := 45) rfl rfl (by decide) rfl rfl (Nat.le_of_ble_eq_true rfl) ⟨Nat.le_of_ble_eq_true rfl, Nat.le_of_ble_eq_true rfl⟩ rfl ?_
  show WW G 2141 [(0, .ref 4000000), (1, .ref 0), (2, .ref 43), (3, .int x3)] [.int r, .int r] I2 L2 X
  refine w_icmpeqT (tgt := 2377) hc dL_law_2141 rfl ?_
  exact kk G rm c s I2 L2 hc hX hI2 (Or.inl rfl) (by rw [mcA_0]; rfl) (by rw [msA_0]; rfl)
/-- place -/
def PR_53 (Inv : MI → ML → Nat → Prop) : Prop := ∀ (I : MI) (L : ML) (rm : Nat) (a0 : Int64), Inv I L rm → ∃ (r : Int32) (I1 : MI) (L1 : ML), f_X7_place a0 I L = some (r, I1, L1) ∧ ∃ (I2 : MI) (L2 : ML), f_X8_place a0 I1 L1 = some (r, I2, L2) ∧ Inv I2 L2 rm
set_option maxRecDepth 100000 in
set_option maxHeartbeats 4000000 in
theorem lc_53 {G : GT Unit} {b Ls rm c s : Nat} {xs : Nat → Int32} {x3 : Int32} {I : MI} {L : ML} {X : Option Unit} {Inv : MI → ML → Nat → Prop} (hp : PR_53 Inv) (hc : Cx G code RL ret 14 552) (hX : LX G b Ls xs rm c s) (h1 : vp_in (x3 + 1) Ls) (h2 : vp_in (x3 + 2) Ls) (h3 : vp_in (x3 + 3) Ls) (h4 : vp_in (x3 + 4) Ls) (h5 : vp_in (x3 + 5) Ls) (hInv : Inv I L rm) (hrm : rm ≤ 5040) (hcb : c + 20 ≤ 600000) (hsb : s + 90748 ≤ 7302250)
    (kk : ∀ (G : GT Unit) (rm1 c1 s1 : Nat) (I2 : MI) (L2 : ML), Cx G code RL ret 14 552 → LX G b Ls xs rm1 c1 s1 → Inv I2 L2 rm1 → RS rm rm1 → c1 = c + mcA rm rm1 → s1 = s + msA rm rm1 → WW G 2377 [(0, .ref 4000000), (1, .ref 0), (2, .ref 43), (3, .int x3)] [] I2 L2 X) : WW G 2146 [(0, .ref 4000000), (1, .ref 0), (2, .ref 43), (3, .int x3)] [] I L X := by
  obtain ⟨r, I1, L1, e1, I2, L2, e2, hI2⟩ := hp I L rm ((lshl (Int32.toInt64 (xs (ix (x3 + 1)))) 32) ||| ((Int32.toInt64 (xs (ix (x3 + 2)))) &&& 4294967295)) hInv
  refine w_aload_n (q := 2147) (i := 1) (j := 1) hc dL_law_2146 rfl rfl rfl ?_
  refine w_aload_n (q := 2148) (i := 0) (j := 0) hc dL_law_2147 rfl rfl rfl ?_
  refine w_iload_n (q := 2149) (i := 3) (j := 3) hc dL_law_2148 rfl rfl rfl ?_
  refine w_iconst (q := 2150) hc dL_law_2149 ci_1 rfl ?_
  refine w_iadd (q := 2151) hc dL_law_2150 rfl ?_
  refine w_sld4 (q := 2152) hc hX dL_law_2151 h1 rfl ?_
  refine w_i2l (q := 2153) hc dL_law_2152 rfl ?_
  refine w_bipush (q := 2155) hc dL_law_2153 cb_32 rfl ?_
  refine w_lshl (q := 2156) hc dL_law_2155 rfl ?_
  refine w_aload_n (q := 2157) (i := 0) (j := 0) hc dL_law_2156 rfl rfl rfl ?_
  refine w_iload_n (q := 2158) (i := 3) (j := 3) hc dL_law_2157 rfl rfl rfl ?_
  refine w_iconst (q := 2159) hc dL_law_2158 ci_2 rfl ?_
  refine w_iadd (q := 2160) hc dL_law_2159 rfl ?_
  refine w_sld4 (q := 2161) hc hX dL_law_2160 h2 rfl ?_
  refine w_i2l (q := 2162) hc dL_law_2161 rfl ?_
  refine w_ldc2 (q := 2165) hc dL_law_2162 kl_L_46 rfl ?_
  refine w_land (q := 2166) hc dL_law_2165 rfl ?_
  refine w_lor (q := 2167) hc dL_law_2166 rfl ?_
  refine w_lawV (x := (r, I1, L1)) (q := 2170) (st := []) (args := [.long ((lshl (Int32.toInt64 (xs (ix (x3 + 1)))) 32) ||| ((Int32.toInt64 (xs (ix (x3 + 2)))) &&& 4294967295))]) (p := 0) e1 hc (m_X7_place hX.1 hX.2.1) dL_law_2167 ml_L_239 cf_X7_place iv_X7_place (k_0 hX.1) (C := RX7) (T := TX7) (N := 7) rfl rfl (by decide) rfl rfl (Nat.le_of_ble_eq_true rfl) ⟨Nat.le_of_ble_eq_true rfl, Nat.le_of_ble_eq_true rfl⟩ rfl ?_
  show WW G 2170 [(0, .ref 4000000), (1, .ref 0), (2, .ref 43), (3, .int x3)] [.int r] I1 L1 X
  refine w_aload_n (q := 2171) (i := 2) (j := 2) hc dL_law_2170 rfl rfl rfl ?_
  refine w_aload_n (q := 2172) (i := 0) (j := 0) hc dL_law_2171 rfl rfl rfl ?_
  refine w_iload_n (q := 2173) (i := 3) (j := 3) hc dL_law_2172 rfl rfl rfl ?_
  refine w_iconst (q := 2174) hc dL_law_2173 ci_1 rfl ?_
  refine w_iadd (q := 2175) hc dL_law_2174 rfl ?_
  refine w_sld4 (q := 2176) hc hX dL_law_2175 h1 rfl ?_
  refine w_i2l (q := 2177) hc dL_law_2176 rfl ?_
  refine w_bipush (q := 2179) hc dL_law_2177 cb_32 rfl ?_
  refine w_lshl (q := 2180) hc dL_law_2179 rfl ?_
  refine w_aload_n (q := 2181) (i := 0) (j := 0) hc dL_law_2180 rfl rfl rfl ?_
  refine w_iload_n (q := 2182) (i := 3) (j := 3) hc dL_law_2181 rfl rfl rfl ?_
  refine w_iconst (q := 2183) hc dL_law_2182 ci_2 rfl ?_
  refine w_iadd (q := 2184) hc dL_law_2183 rfl ?_
  refine w_sld4 (q := 2185) hc hX dL_law_2184 h2 rfl ?_
  refine w_i2l (q := 2186) hc dL_law_2185 rfl ?_
  refine w_ldc2 (q := 2189) hc dL_law_2186 kl_L_46 rfl ?_
  refine w_land (q := 2190) hc dL_law_2189 rfl ?_
  refine w_lor (q := 2191) hc dL_law_2190 rfl ?_
  refine w_lawV (x := (r, I2, L2)) (q := 2194) (st := [.int r]) (args := [.long ((lshl (Int32.toInt64 (xs (ix (x3 + 1)))) 32) ||| ((Int32.toInt64 (xs (ix (x3 + 2)))) &&& 4294967295))]) (p := 43) e2 hc (m_X8_place hX.1 hX.2.1) dL_law_2191 ml_L_242 cf_X8_place iv_X8_place (k_43 hX.1) (C := RX8) (T := TX8) (N := 45) rfl rfl (by decide) rfl rfl (Nat.le_of_ble_eq_true rfl) ⟨Nat.le_of_ble_eq_true rfl, Nat.le_of_ble_eq_true rfl⟩ rfl ?_
  show WW G 2194 [(0, .ref 4000000), (1, .ref 0), (2, .ref 43), (3, .int x3)] [.int r, .int r] I2 L2 X
  refine w_icmpeqT (tgt := 2377) hc dL_law_2194 rfl ?_
  exact kk G rm c s I2 L2 hc hX hI2 (Or.inl rfl) (by rw [mcA_0]; rfl) (by rw [msA_0]; rfl)
/-- home -/
def PR_54 (Inv : MI → ML → Nat → Prop) : Prop := ∀ (I : MI) (L : ML) (rm : Nat), Inv I L rm → ∃ (r : Int32) (I1 : MI) (L1 : ML), f_X7_home I L = some (r, I1, L1) ∧ ∃ (I2 : MI) (L2 : ML), f_X8_home I1 L1 = some (r, I2, L2) ∧ Inv I2 L2 rm
set_option maxRecDepth 100000 in
set_option maxHeartbeats 4000000 in
theorem lc_54 {G : GT Unit} {b Ls rm c s : Nat} {xs : Nat → Int32} {x3 : Int32} {I : MI} {L : ML} {X : Option Unit} {Inv : MI → ML → Nat → Prop} (hp : PR_54 Inv) (hc : Cx G code RL ret 14 552) (hX : LX G b Ls xs rm c s) (h1 : vp_in (x3 + 1) Ls) (h2 : vp_in (x3 + 2) Ls) (h3 : vp_in (x3 + 3) Ls) (h4 : vp_in (x3 + 4) Ls) (h5 : vp_in (x3 + 5) Ls) (hInv : Inv I L rm) (hrm : rm ≤ 5040) (hcb : c + 20 ≤ 600000) (hsb : s + 90748 ≤ 7302250)
    (kk : ∀ (G : GT Unit) (rm1 c1 s1 : Nat) (I2 : MI) (L2 : ML), Cx G code RL ret 14 552 → LX G b Ls xs rm1 c1 s1 → Inv I2 L2 rm1 → RS rm rm1 → c1 = c + mcA rm rm1 → s1 = s + msA rm rm1 → WW G 2377 [(0, .ref 4000000), (1, .ref 0), (2, .ref 43), (3, .int x3)] [] I2 L2 X) : WW G 2199 [(0, .ref 4000000), (1, .ref 0), (2, .ref 43), (3, .int x3)] [] I L X := by
  obtain ⟨r, I1, L1, e1, I2, L2, e2, hI2⟩ := hp I L rm hInv
  refine w_aload_n (q := 2200) (i := 1) (j := 1) hc dL_law_2199 rfl rfl rfl ?_
  refine w_lawV (x := (r, I1, L1)) (q := 2203) (st := []) (args := []) (p := 0) e1 hc (m_X7_home hX.1 hX.2.1) dL_law_2200 ml_L_243 cf_X7_home iv_X7_home (k_0 hX.1) (C := RX7) (T := TX7) (N := 7) rfl rfl (by decide) rfl rfl (Nat.le_of_ble_eq_true rfl) ⟨Nat.le_of_ble_eq_true rfl, Nat.le_of_ble_eq_true rfl⟩ rfl ?_
  show WW G 2203 [(0, .ref 4000000), (1, .ref 0), (2, .ref 43), (3, .int x3)] [.int r] I1 L1 X
  refine w_aload_n (q := 2204) (i := 2) (j := 2) hc dL_law_2203 rfl rfl rfl ?_
  refine w_lawV (x := (r, I2, L2)) (q := 2207) (st := [.int r]) (args := []) (p := 43) e2 hc (m_X8_home hX.1 hX.2.1) dL_law_2204 ml_L_246 cf_X8_home iv_X8_home (k_43 hX.1) (C := RX8) (T := TX8) (N := 45) rfl rfl (by decide) rfl rfl (Nat.le_of_ble_eq_true rfl) ⟨Nat.le_of_ble_eq_true rfl, Nat.le_of_ble_eq_true rfl⟩ rfl ?_
  show WW G 2207 [(0, .ref 4000000), (1, .ref 0), (2, .ref 43), (3, .int x3)] [.int r, .int r] I2 L2 X
  refine w_icmpeqT (tgt := 2377) hc dL_law_2207 rfl ?_
  exact kk G rm c s I2 L2 hc hX hI2 (Or.inl rfl) (by rw [mcA_0]; rfl) (by rw [msA_0]; rfl)
/-- add -/
def PR_55 (Inv : MI → ML → Nat → Prop) : Prop := ∀ (I : MI) (L : ML) (rm : Nat) (a0 : Int64), Inv I L rm → ∃ (r : Int32) (I1 : MI) (L1 : ML), f_X7_add a0 I L = some (r, I1, L1) ∧ ∃ (I2 : MI) (L2 : ML), f_X8_add a0 I1 L1 = some (r, I2, L2) ∧ Inv I2 L2 rm
set_option maxRecDepth 100000 in
set_option maxHeartbeats 4000000 in
theorem lc_55 {G : GT Unit} {b Ls rm c s : Nat} {xs : Nat → Int32} {x3 : Int32} {I : MI} {L : ML} {X : Option Unit} {Inv : MI → ML → Nat → Prop} (hp : PR_55 Inv) (hc : Cx G code RL ret 14 552) (hX : LX G b Ls xs rm c s) (h1 : vp_in (x3 + 1) Ls) (h2 : vp_in (x3 + 2) Ls) (h3 : vp_in (x3 + 3) Ls) (h4 : vp_in (x3 + 4) Ls) (h5 : vp_in (x3 + 5) Ls) (hInv : Inv I L rm) (hrm : rm ≤ 5040) (hcb : c + 20 ≤ 600000) (hsb : s + 90748 ≤ 7302250)
    (kk : ∀ (G : GT Unit) (rm1 c1 s1 : Nat) (I2 : MI) (L2 : ML), Cx G code RL ret 14 552 → LX G b Ls xs rm1 c1 s1 → Inv I2 L2 rm1 → RS rm rm1 → c1 = c + mcA rm rm1 → s1 = s + msA rm rm1 → WW G 2377 [(0, .ref 4000000), (1, .ref 0), (2, .ref 43), (3, .int x3)] [] I2 L2 X) : WW G 2212 [(0, .ref 4000000), (1, .ref 0), (2, .ref 43), (3, .int x3)] [] I L X := by
  obtain ⟨r, I1, L1, e1, I2, L2, e2, hI2⟩ := hp I L rm ((lshl (Int32.toInt64 (xs (ix (x3 + 1)))) 32) ||| ((Int32.toInt64 (xs (ix (x3 + 2)))) &&& 4294967295)) hInv
  refine w_aload_n (q := 2213) (i := 1) (j := 1) hc dL_law_2212 rfl rfl rfl ?_
  refine w_aload_n (q := 2214) (i := 0) (j := 0) hc dL_law_2213 rfl rfl rfl ?_
  refine w_iload_n (q := 2215) (i := 3) (j := 3) hc dL_law_2214 rfl rfl rfl ?_
  refine w_iconst (q := 2216) hc dL_law_2215 ci_1 rfl ?_
  refine w_iadd (q := 2217) hc dL_law_2216 rfl ?_
  refine w_sld4 (q := 2218) hc hX dL_law_2217 h1 rfl ?_
  refine w_i2l (q := 2219) hc dL_law_2218 rfl ?_
  refine w_bipush (q := 2221) hc dL_law_2219 cb_32 rfl ?_
  refine w_lshl (q := 2222) hc dL_law_2221 rfl ?_
  refine w_aload_n (q := 2223) (i := 0) (j := 0) hc dL_law_2222 rfl rfl rfl ?_
  refine w_iload_n (q := 2224) (i := 3) (j := 3) hc dL_law_2223 rfl rfl rfl ?_
  refine w_iconst (q := 2225) hc dL_law_2224 ci_2 rfl ?_
  refine w_iadd (q := 2226) hc dL_law_2225 rfl ?_
  refine w_sld4 (q := 2227) hc hX dL_law_2226 h2 rfl ?_
  refine w_i2l (q := 2228) hc dL_law_2227 rfl ?_
  refine w_ldc2 (q := 2231) hc dL_law_2228 kl_L_46 rfl ?_
  refine w_land (q := 2232) hc dL_law_2231 rfl ?_
  refine w_lor (q := 2233) hc dL_law_2232 rfl ?_
  refine w_lawV (x := (r, I1, L1)) (q := 2236) (st := []) (args := [.long ((lshl (Int32.toInt64 (xs (ix (x3 + 1)))) 32) ||| ((Int32.toInt64 (xs (ix (x3 + 2)))) &&& 4294967295))]) (p := 0) e1 hc (m_X7_add hX.1 hX.2.1) dL_law_2233 ml_L_247 cf_X7_add iv_X7_add (k_0 hX.1) (C := RX7) (T := TX7) (N := 7) rfl rfl (by decide) rfl rfl (Nat.le_of_ble_eq_true rfl) ⟨Nat.le_of_ble_eq_true rfl, Nat.le_of_ble_eq_true rfl⟩ rfl ?_
  show WW G 2236 [(0, .ref 4000000), (1, .ref 0), (2, .ref 43), (3, .int x3)] [.int r] I1 L1 X
  refine w_aload_n (q := 2237) (i := 2) (j := 2) hc dL_law_2236 rfl rfl rfl ?_
  refine w_aload_n (q := 2238) (i := 0) (j := 0) hc dL_law_2237 rfl rfl rfl ?_
  refine w_iload_n (q := 2239) (i := 3) (j := 3) hc dL_law_2238 rfl rfl rfl ?_
  refine w_iconst (q := 2240) hc dL_law_2239 ci_1 rfl ?_
  refine w_iadd (q := 2241) hc dL_law_2240 rfl ?_
  refine w_sld4 (q := 2242) hc hX dL_law_2241 h1 rfl ?_
  refine w_i2l (q := 2243) hc dL_law_2242 rfl ?_
  refine w_bipush (q := 2245) hc dL_law_2243 cb_32 rfl ?_
  refine w_lshl (q := 2246) hc dL_law_2245 rfl ?_
  refine w_aload_n (q := 2247) (i := 0) (j := 0) hc dL_law_2246 rfl rfl rfl ?_
  refine w_iload_n (q := 2248) (i := 3) (j := 3) hc dL_law_2247 rfl rfl rfl ?_
  refine w_iconst (q := 2249) hc dL_law_2248 ci_2 rfl ?_
  refine w_iadd (q := 2250) hc dL_law_2249 rfl ?_
  refine w_sld4 (q := 2251) hc hX dL_law_2250 h2 rfl ?_
  refine w_i2l (q := 2252) hc dL_law_2251 rfl ?_
  refine w_ldc2 (q := 2255) hc dL_law_2252 kl_L_46 rfl ?_
  refine w_land (q := 2256) hc dL_law_2255 rfl ?_
  refine w_lor (q := 2257) hc dL_law_2256 rfl ?_
  refine w_lawV (x := (r, I2, L2)) (q := 2260) (st := [.int r]) (args := [.long ((lshl (Int32.toInt64 (xs (ix (x3 + 1)))) 32) ||| ((Int32.toInt64 (xs (ix (x3 + 2)))) &&& 4294967295))]) (p := 43) e2 hc (m_X8_add hX.1 hX.2.1) dL_law_2257 ml_L_250 cf_X8_add iv_X8_add (k_43 hX.1) (C := RX8) (T := TX8) (N := 45) rfl rfl (by decide) rfl rfl (Nat.le_of_ble_eq_true rfl) ⟨Nat.le_of_ble_eq_true rfl, Nat.le_of_ble_eq_true rfl⟩ rfl ?_
  show WW G 2260 [(0, .ref 4000000), (1, .ref 0), (2, .ref 43), (3, .int x3)] [.int r, .int r] I2 L2 X
  refine w_icmpeqT (tgt := 2377) hc dL_law_2260 rfl ?_
  exact kk G rm c s I2 L2 hc hX hI2 (Or.inl rfl) (by rw [mcA_0]; rfl) (by rw [msA_0]; rfl)
/-- drop -/
def PR_56 (Inv : MI → ML → Nat → Prop) : Prop := ∀ (I : MI) (L : ML) (rm : Nat) (a0 : Int32), Inv I L rm → ∃ (r : Int32) (I1 : MI) (L1 : ML), f_X7_drop a0 I L = some (r, I1, L1) ∧ ∃ (I2 : MI) (L2 : ML), f_X8_drop a0 I1 L1 = some (r, I2, L2) ∧ Inv I2 L2 rm
set_option maxRecDepth 100000 in
set_option maxHeartbeats 4000000 in
theorem lc_56 {G : GT Unit} {b Ls rm c s : Nat} {xs : Nat → Int32} {x3 : Int32} {I : MI} {L : ML} {X : Option Unit} {Inv : MI → ML → Nat → Prop} (hp : PR_56 Inv) (hc : Cx G code RL ret 14 552) (hX : LX G b Ls xs rm c s) (h1 : vp_in (x3 + 1) Ls) (h2 : vp_in (x3 + 2) Ls) (h3 : vp_in (x3 + 3) Ls) (h4 : vp_in (x3 + 4) Ls) (h5 : vp_in (x3 + 5) Ls) (hInv : Inv I L rm) (hrm : rm ≤ 5040) (hcb : c + 20 ≤ 600000) (hsb : s + 90748 ≤ 7302250)
    (kk : ∀ (G : GT Unit) (rm1 c1 s1 : Nat) (I2 : MI) (L2 : ML), Cx G code RL ret 14 552 → LX G b Ls xs rm1 c1 s1 → Inv I2 L2 rm1 → RS rm rm1 → c1 = c + mcA rm rm1 → s1 = s + msA rm rm1 → WW G 2377 [(0, .ref 4000000), (1, .ref 0), (2, .ref 43), (3, .int x3)] [] I2 L2 X) : WW G 2265 [(0, .ref 4000000), (1, .ref 0), (2, .ref 43), (3, .int x3)] [] I L X := by
  obtain ⟨r, I1, L1, e1, I2, L2, e2, hI2⟩ := hp I L rm (xs (ix (x3 + 1))) hInv
  refine w_aload_n (q := 2266) (i := 1) (j := 1) hc dL_law_2265 rfl rfl rfl ?_
  refine w_aload_n (q := 2267) (i := 0) (j := 0) hc dL_law_2266 rfl rfl rfl ?_
  refine w_iload_n (q := 2268) (i := 3) (j := 3) hc dL_law_2267 rfl rfl rfl ?_
  refine w_iconst (q := 2269) hc dL_law_2268 ci_1 rfl ?_
  refine w_iadd (q := 2270) hc dL_law_2269 rfl ?_
  refine w_sld4 (q := 2271) hc hX dL_law_2270 h1 rfl ?_
  refine w_lawV (x := (r, I1, L1)) (q := 2274) (st := []) (args := [.int (xs (ix (x3 + 1)))]) (p := 0) e1 hc (m_X7_drop hX.1 hX.2.1) dL_law_2271 ml_L_251 cf_X7_drop iv_X7_drop (k_0 hX.1) (C := RX7) (T := TX7) (N := 7) rfl rfl (by decide) rfl rfl (Nat.le_of_ble_eq_true rfl) ⟨Nat.le_of_ble_eq_true rfl, Nat.le_of_ble_eq_true rfl⟩ rfl ?_
  show WW G 2274 [(0, .ref 4000000), (1, .ref 0), (2, .ref 43), (3, .int x3)] [.int r] I1 L1 X
  refine w_aload_n (q := 2275) (i := 2) (j := 2) hc dL_law_2274 rfl rfl rfl ?_
  refine w_aload_n (q := 2276) (i := 0) (j := 0) hc dL_law_2275 rfl rfl rfl ?_
  refine w_iload_n (q := 2277) (i := 3) (j := 3) hc dL_law_2276 rfl rfl rfl ?_
  refine w_iconst (q := 2278) hc dL_law_2277 ci_1 rfl ?_
  refine w_iadd (q := 2279) hc dL_law_2278 rfl ?_
  refine w_sld4 (q := 2280) hc hX dL_law_2279 h1 rfl ?_
  refine w_lawV (x := (r, I2, L2)) (q := 2283) (st := [.int r]) (args := [.int (xs (ix (x3 + 1)))]) (p := 43) e2 hc (m_X8_drop hX.1 hX.2.1) dL_law_2280 ml_L_254 cf_X8_drop iv_X8_drop (k_43 hX.1) (C := RX8) (T := TX8) (N := 45) rfl rfl (by decide) rfl rfl (Nat.le_of_ble_eq_true rfl) ⟨Nat.le_of_ble_eq_true rfl, Nat.le_of_ble_eq_true rfl⟩ rfl ?_
  show WW G 2283 [(0, .ref 4000000), (1, .ref 0), (2, .ref 43), (3, .int x3)] [.int r, .int r] I2 L2 X
  refine w_icmpeqT (tgt := 2377) hc dL_law_2283 rfl ?_
  exact kk G rm c s I2 L2 hc hX hI2 (Or.inl rfl) (by rw [mcA_0]; rfl) (by rw [msA_0]; rfl)
/-- undo -/
def PR_57 (Inv : MI → ML → Nat → Prop) : Prop := ∀ (I : MI) (L : ML) (rm : Nat), Inv I L rm → ∃ (r : Int32) (I1 : MI) (L1 : ML), f_X7_undo I L = some (r, I1, L1) ∧ ∃ (I2 : MI) (L2 : ML), f_X8_undo I1 L1 = some (r, I2, L2) ∧ Inv I2 L2 rm
set_option maxRecDepth 100000 in
set_option maxHeartbeats 4000000 in
theorem lc_57 {G : GT Unit} {b Ls rm c s : Nat} {xs : Nat → Int32} {x3 : Int32} {I : MI} {L : ML} {X : Option Unit} {Inv : MI → ML → Nat → Prop} (hp : PR_57 Inv) (hc : Cx G code RL ret 14 552) (hX : LX G b Ls xs rm c s) (h1 : vp_in (x3 + 1) Ls) (h2 : vp_in (x3 + 2) Ls) (h3 : vp_in (x3 + 3) Ls) (h4 : vp_in (x3 + 4) Ls) (h5 : vp_in (x3 + 5) Ls) (hInv : Inv I L rm) (hrm : rm ≤ 5040) (hcb : c + 20 ≤ 600000) (hsb : s + 90748 ≤ 7302250)
    (kk : ∀ (G : GT Unit) (rm1 c1 s1 : Nat) (I2 : MI) (L2 : ML), Cx G code RL ret 14 552 → LX G b Ls xs rm1 c1 s1 → Inv I2 L2 rm1 → RS rm rm1 → c1 = c + mcA rm rm1 → s1 = s + msA rm rm1 → WW G 2377 [(0, .ref 4000000), (1, .ref 0), (2, .ref 43), (3, .int x3)] [] I2 L2 X) : WW G 2288 [(0, .ref 4000000), (1, .ref 0), (2, .ref 43), (3, .int x3)] [] I L X := by
  obtain ⟨r, I1, L1, e1, I2, L2, e2, hI2⟩ := hp I L rm hInv
  refine w_aload_n (q := 2289) (i := 1) (j := 1) hc dL_law_2288 rfl rfl rfl ?_
  refine w_lawV (x := (r, I1, L1)) (q := 2292) (st := []) (args := []) (p := 0) e1 hc (m_X7_undo hX.1 hX.2.1) dL_law_2289 ml_L_255 cf_X7_undo iv_X7_undo (k_0 hX.1) (C := RX7) (T := TX7) (N := 7) rfl rfl (by decide) rfl rfl (Nat.le_of_ble_eq_true rfl) ⟨Nat.le_of_ble_eq_true rfl, Nat.le_of_ble_eq_true rfl⟩ rfl ?_
  show WW G 2292 [(0, .ref 4000000), (1, .ref 0), (2, .ref 43), (3, .int x3)] [.int r] I1 L1 X
  refine w_aload_n (q := 2293) (i := 2) (j := 2) hc dL_law_2292 rfl rfl rfl ?_
  refine w_lawV (x := (r, I2, L2)) (q := 2296) (st := [.int r]) (args := []) (p := 43) e2 hc (m_X8_undo hX.1 hX.2.1) dL_law_2293 ml_L_258 cf_X8_undo iv_X8_undo (k_43 hX.1) (C := RX8) (T := TX8) (N := 45) rfl rfl (by decide) rfl rfl (Nat.le_of_ble_eq_true rfl) ⟨Nat.le_of_ble_eq_true rfl, Nat.le_of_ble_eq_true rfl⟩ rfl ?_
  show WW G 2296 [(0, .ref 4000000), (1, .ref 0), (2, .ref 43), (3, .int x3)] [.int r, .int r] I2 L2 X
  refine w_icmpeqT (tgt := 2377) hc dL_law_2296 rfl ?_
  exact kk G rm c s I2 L2 hc hX hI2 (Or.inl rfl) (by rw [mcA_0]; rfl) (by rw [msA_0]; rfl)
/-- print -/
def PR_58 (Inv : MI → ML → Nat → Prop) : Prop := ∀ (I : MI) (L : ML) (rm : Nat) (a0 : Int64), Inv I L rm → ∃ (r : Int32) (I1 : MI) (L1 : ML), f_X7_print a0 I L = some (r, I1, L1) ∧ ∃ (I2 : MI) (L2 : ML), f_X8_print a0 I1 L1 = some (r, I2, L2) ∧ Inv I2 L2 rm
set_option maxRecDepth 100000 in
set_option maxHeartbeats 4000000 in
theorem lc_58 {G : GT Unit} {b Ls rm c s : Nat} {xs : Nat → Int32} {x3 : Int32} {I : MI} {L : ML} {X : Option Unit} {Inv : MI → ML → Nat → Prop} (hp : PR_58 Inv) (hc : Cx G code RL ret 14 552) (hX : LX G b Ls xs rm c s) (h1 : vp_in (x3 + 1) Ls) (h2 : vp_in (x3 + 2) Ls) (h3 : vp_in (x3 + 3) Ls) (h4 : vp_in (x3 + 4) Ls) (h5 : vp_in (x3 + 5) Ls) (hInv : Inv I L rm) (hrm : rm ≤ 5040) (hcb : c + 20 ≤ 600000) (hsb : s + 90748 ≤ 7302250)
    (kk : ∀ (G : GT Unit) (rm1 c1 s1 : Nat) (I2 : MI) (L2 : ML), Cx G code RL ret 14 552 → LX G b Ls xs rm1 c1 s1 → Inv I2 L2 rm1 → RS rm rm1 → c1 = c + mcA rm rm1 → s1 = s + msA rm rm1 → WW G 2377 [(0, .ref 4000000), (1, .ref 0), (2, .ref 43), (3, .int x3)] [] I2 L2 X) : WW G 2301 [(0, .ref 4000000), (1, .ref 0), (2, .ref 43), (3, .int x3)] [] I L X := by
  obtain ⟨r, I1, L1, e1, I2, L2, e2, hI2⟩ := hp I L rm ((lshl (Int32.toInt64 (xs (ix (x3 + 1)))) 32) ||| ((Int32.toInt64 (xs (ix (x3 + 2)))) &&& 4294967295)) hInv
  refine w_aload_n (q := 2302) (i := 1) (j := 1) hc dL_law_2301 rfl rfl rfl ?_
  refine w_aload_n (q := 2303) (i := 0) (j := 0) hc dL_law_2302 rfl rfl rfl ?_
  refine w_iload_n (q := 2304) (i := 3) (j := 3) hc dL_law_2303 rfl rfl rfl ?_
  refine w_iconst (q := 2305) hc dL_law_2304 ci_1 rfl ?_
  refine w_iadd (q := 2306) hc dL_law_2305 rfl ?_
  refine w_sld4 (q := 2307) hc hX dL_law_2306 h1 rfl ?_
  refine w_i2l (q := 2308) hc dL_law_2307 rfl ?_
  refine w_bipush (q := 2310) hc dL_law_2308 cb_32 rfl ?_
  refine w_lshl (q := 2311) hc dL_law_2310 rfl ?_
  refine w_aload_n (q := 2312) (i := 0) (j := 0) hc dL_law_2311 rfl rfl rfl ?_
  refine w_iload_n (q := 2313) (i := 3) (j := 3) hc dL_law_2312 rfl rfl rfl ?_
  refine w_iconst (q := 2314) hc dL_law_2313 ci_2 rfl ?_
  refine w_iadd (q := 2315) hc dL_law_2314 rfl ?_
  refine w_sld4 (q := 2316) hc hX dL_law_2315 h2 rfl ?_
  refine w_i2l (q := 2317) hc dL_law_2316 rfl ?_
  refine w_ldc2 (q := 2320) hc dL_law_2317 kl_L_46 rfl ?_
  refine w_land (q := 2321) hc dL_law_2320 rfl ?_
  refine w_lor (q := 2322) hc dL_law_2321 rfl ?_
  refine w_lawV (x := (r, I1, L1)) (q := 2325) (st := []) (args := [.long ((lshl (Int32.toInt64 (xs (ix (x3 + 1)))) 32) ||| ((Int32.toInt64 (xs (ix (x3 + 2)))) &&& 4294967295))]) (p := 0) e1 hc (m_X7_print hX.1 hX.2.1) dL_law_2322 ml_L_259 cf_X7_print iv_X7_print (k_0 hX.1) (C := RX7) (T := TX7) (N := 7) rfl rfl (by decide) rfl rfl (Nat.le_of_ble_eq_true rfl) ⟨Nat.le_of_ble_eq_true rfl, Nat.le_of_ble_eq_true rfl⟩ rfl ?_
  show WW G 2325 [(0, .ref 4000000), (1, .ref 0), (2, .ref 43), (3, .int x3)] [.int r] I1 L1 X
  refine w_aload_n (q := 2326) (i := 2) (j := 2) hc dL_law_2325 rfl rfl rfl ?_
  refine w_aload_n (q := 2327) (i := 0) (j := 0) hc dL_law_2326 rfl rfl rfl ?_
  refine w_iload_n (q := 2328) (i := 3) (j := 3) hc dL_law_2327 rfl rfl rfl ?_
  refine w_iconst (q := 2329) hc dL_law_2328 ci_1 rfl ?_
  refine w_iadd (q := 2330) hc dL_law_2329 rfl ?_
  refine w_sld4 (q := 2331) hc hX dL_law_2330 h1 rfl ?_
  refine w_i2l (q := 2332) hc dL_law_2331 rfl ?_
  refine w_bipush (q := 2334) hc dL_law_2332 cb_32 rfl ?_
  refine w_lshl (q := 2335) hc dL_law_2334 rfl ?_
  refine w_aload_n (q := 2336) (i := 0) (j := 0) hc dL_law_2335 rfl rfl rfl ?_
  refine w_iload_n (q := 2337) (i := 3) (j := 3) hc dL_law_2336 rfl rfl rfl ?_
  refine w_iconst (q := 2338) hc dL_law_2337 ci_2 rfl ?_
  refine w_iadd (q := 2339) hc dL_law_2338 rfl ?_
  refine w_sld4 (q := 2340) hc hX dL_law_2339 h2 rfl ?_
  refine w_i2l (q := 2341) hc dL_law_2340 rfl ?_
  refine w_ldc2 (q := 2344) hc dL_law_2341 kl_L_46 rfl ?_
  refine w_land (q := 2345) hc dL_law_2344 rfl ?_
  refine w_lor (q := 2346) hc dL_law_2345 rfl ?_
  refine w_lawV (x := (r, I2, L2)) (q := 2349) (st := [.int r]) (args := [.long ((lshl (Int32.toInt64 (xs (ix (x3 + 1)))) 32) ||| ((Int32.toInt64 (xs (ix (x3 + 2)))) &&& 4294967295))]) (p := 43) e2 hc (m_X8_print hX.1 hX.2.1) dL_law_2346 ml_L_262 cf_X8_print iv_X8_print (k_43 hX.1) (C := RX8) (T := TX8) (N := 45) rfl rfl (by decide) rfl rfl (Nat.le_of_ble_eq_true rfl) ⟨Nat.le_of_ble_eq_true rfl, Nat.le_of_ble_eq_true rfl⟩ rfl ?_
  show WW G 2349 [(0, .ref 4000000), (1, .ref 0), (2, .ref 43), (3, .int x3)] [.int r, .int r] I2 L2 X
  refine w_icmpeqT (tgt := 2377) hc dL_law_2349 rfl ?_
  exact kk G rm c s I2 L2 hc hX hI2 (Or.inl rfl) (by rw [mcA_0]; rfl) (by rw [msA_0]; rfl)
/-- out -/
def PR_59 (Inv : MI → ML → Nat → Prop) : Prop := ∀ (I : MI) (L : ML) (rm : Nat) (a0 : Int32), Inv I L rm → ∃ (r : Int32) (I1 : MI) (L1 : ML), f_X7_out a0 I L = some (r, I1, L1) ∧ ∃ (I2 : MI) (L2 : ML), f_X8_out a0 I1 L1 = some (r, I2, L2) ∧ Inv I2 L2 rm
set_option maxRecDepth 100000 in
set_option maxHeartbeats 4000000 in
theorem lc_59 {G : GT Unit} {b Ls rm c s : Nat} {xs : Nat → Int32} {x3 : Int32} {I : MI} {L : ML} {X : Option Unit} {Inv : MI → ML → Nat → Prop} (hp : PR_59 Inv) (hc : Cx G code RL ret 14 552) (hX : LX G b Ls xs rm c s) (h1 : vp_in (x3 + 1) Ls) (h2 : vp_in (x3 + 2) Ls) (h3 : vp_in (x3 + 3) Ls) (h4 : vp_in (x3 + 4) Ls) (h5 : vp_in (x3 + 5) Ls) (hInv : Inv I L rm) (hrm : rm ≤ 5040) (hcb : c + 20 ≤ 600000) (hsb : s + 90748 ≤ 7302250)
    (kk : ∀ (G : GT Unit) (rm1 c1 s1 : Nat) (I2 : MI) (L2 : ML), Cx G code RL ret 14 552 → LX G b Ls xs rm1 c1 s1 → Inv I2 L2 rm1 → RS rm rm1 → c1 = c + mcA rm rm1 → s1 = s + msA rm rm1 → WW G 2377 [(0, .ref 4000000), (1, .ref 0), (2, .ref 43), (3, .int x3)] [] I2 L2 X) : WW G 2354 [(0, .ref 4000000), (1, .ref 0), (2, .ref 43), (3, .int x3)] [] I L X := by
  obtain ⟨r, I1, L1, e1, I2, L2, e2, hI2⟩ := hp I L rm (xs (ix (x3 + 1))) hInv
  refine w_aload_n (q := 2355) (i := 1) (j := 1) hc dL_law_2354 rfl rfl rfl ?_
  refine w_aload_n (q := 2356) (i := 0) (j := 0) hc dL_law_2355 rfl rfl rfl ?_
  refine w_iload_n (q := 2357) (i := 3) (j := 3) hc dL_law_2356 rfl rfl rfl ?_
  refine w_iconst (q := 2358) hc dL_law_2357 ci_1 rfl ?_
  refine w_iadd (q := 2359) hc dL_law_2358 rfl ?_
  refine w_sld4 (q := 2360) hc hX dL_law_2359 h1 rfl ?_
  refine w_lawV (x := (r, I1, L1)) (q := 2363) (st := []) (args := [.int (xs (ix (x3 + 1)))]) (p := 0) e1 hc (m_X7_out hX.1 hX.2.1) dL_law_2360 ml_L_263 cf_X7_out iv_X7_out (k_0 hX.1) (C := RX7) (T := TX7) (N := 7) rfl rfl (by decide) rfl rfl (Nat.le_of_ble_eq_true rfl) ⟨Nat.le_of_ble_eq_true rfl, Nat.le_of_ble_eq_true rfl⟩ rfl ?_
  show WW G 2363 [(0, .ref 4000000), (1, .ref 0), (2, .ref 43), (3, .int x3)] [.int r] I1 L1 X
  refine w_aload_n (q := 2364) (i := 2) (j := 2) hc dL_law_2363 rfl rfl rfl ?_
  refine w_aload_n (q := 2365) (i := 0) (j := 0) hc dL_law_2364 rfl rfl rfl ?_
  refine w_iload_n (q := 2366) (i := 3) (j := 3) hc dL_law_2365 rfl rfl rfl ?_
  refine w_iconst (q := 2367) hc dL_law_2366 ci_1 rfl ?_
  refine w_iadd (q := 2368) hc dL_law_2367 rfl ?_
  refine w_sld4 (q := 2369) hc hX dL_law_2368 h1 rfl ?_
  refine w_lawV (x := (r, I2, L2)) (q := 2372) (st := [.int r]) (args := [.int (xs (ix (x3 + 1)))]) (p := 43) e2 hc (m_X8_out hX.1 hX.2.1) dL_law_2369 ml_L_266 cf_X8_out iv_X8_out (k_43 hX.1) (C := RX8) (T := TX8) (N := 45) rfl rfl (by decide) rfl rfl (Nat.le_of_ble_eq_true rfl) ⟨Nat.le_of_ble_eq_true rfl, Nat.le_of_ble_eq_true rfl⟩ rfl ?_
  show WW G 2372 [(0, .ref 4000000), (1, .ref 0), (2, .ref 43), (3, .int x3)] [.int r, .int r] I2 L2 X
  refine w_icmpeqT (tgt := 2377) hc dL_law_2372 rfl ?_
  exact kk G rm c s I2 L2 hc hX hI2 (Or.inl rfl) (by rw [mcA_0]; rfl) (by rw [msA_0]; rfl)
