theorem ci_6 : Int32.ofInt (6) = (6) := by decide +kernel
def PRA (Inv : MI → ML → Nat → Prop) : Prop := PR_0 Inv ∧ PR_1 Inv ∧ PR_2 Inv ∧ PR_3 Inv ∧ PR_4 Inv ∧ PR_5 Inv ∧ PR_6 Inv ∧ PR_7 Inv ∧ PR_8 Inv ∧ PR_9 Inv ∧ PR_10 Inv ∧ PR_11 Inv ∧ PR_12 Inv ∧ PR_13 Inv ∧ PR_14 Inv ∧ PR_15 Inv ∧ PR_16 Inv ∧ PR_17 Inv ∧ PR_18 Inv ∧ PR_19 Inv ∧ PR_20 Inv ∧ PR_21 Inv ∧ PR_22 Inv ∧ PR_23 Inv ∧ PR_24 Inv ∧ PR_25 Inv ∧ PR_26 Inv ∧ PR_27 Inv ∧ PR_28 Inv ∧ PR_29 Inv ∧ PR_30 Inv ∧ PR_31 Inv ∧ PR_32 Inv ∧ PR_33 Inv ∧ PR_34 Inv ∧ PR_35 Inv ∧ PR_36 Inv ∧ PR_37 Inv ∧ PR_38 Inv ∧ PR_39 Inv ∧ PR_40 Inv ∧ PR_41 Inv ∧ PR_42 Inv ∧ PR_43 Inv ∧ PR_44 Inv ∧ PR_45 Inv ∧ PR_46 Inv ∧ PR_47 Inv ∧ PR_48 Inv ∧ PR_49 Inv ∧ PR_50 Inv ∧ PR_51 Inv ∧ PR_52 Inv ∧ PR_53 Inv ∧ PR_54 Inv ∧ PR_55 Inv ∧ PR_56 Inv ∧ PR_57 Inv ∧ PR_58 Inv ∧ PR_59 Inv
def PR_init (Inv : MI → ML → Nat → Prop) : Prop := ∃ (I2 : MI) (L2 : ML), Option.bind (f_X8_isHome 46 (up2 (up2 (up2 (up2 (fun _ _ => 0) 1 14 (-1)) 1 15 (-1)) 43 31 (-1)) 43 32 (-1)) (fun _ _ => 0)) (fun q1 => Option.bind (f_X8_copies 46 10 0 44 71 1 q1.1 q1.2) (fun q2 => some (q2.1, q2.2))) = some (I2, L2) ∧ Inv I2 L2 0
/-- how often a roster was made: t times, the room is rm now -/
def pot (rm t : Nat) : Prop := (t = 0 ∧ rm = 0) ∨ (1 ≤ t ∧ 2 ^ (t - 1) ≤ rm ∧ rm < 5040) ∨ (t ≤ 14 ∧ rm = 5040)
theorem pot.le14 {rm t : Nat} (h : pot rm t) : t ≤ 14 := by
  rcases h with h | h | h
  · omega
  · rcases Nat.lt_or_ge t 15 with h1 | h1
    · omega
    · have h2 : 2 ^ 14 ≤ 2 ^ (t - 1) := Nat.pow_le_pow_right (by decide) (by omega)
      omega
  · omega
theorem pot.rm {rm t : Nat} (h : pot rm t) : rm ≤ 5040 := by
  rcases h with h | h | h <;> omega
theorem pot.step {rm t rm1 : Nat} (h : pot rm t) (hs : RS rm rm1) (hne : rm1 ≠ rm) : pot rm1 (t + 1) := by
  rcases hs with hs | ⟨h1, h2, h3⟩
  · exact absurd hs hne
  · by_cases h5 : rm1 = 5040
    · refine Or.inr (Or.inr ⟨?_, h5⟩)
      rcases h with h | h | h
      · omega
      · rcases Nat.lt_or_ge t 14 with h6 | h6
        · omega
        · have h7 : 2 ^ 13 ≤ 2 ^ (t - 1) := Nat.pow_le_pow_right (by decide) (by omega)
          omega
      · omega
    · refine Or.inr (Or.inl ⟨by omega, ?_, by omega⟩)
      rcases h with h | h | h
      · have : t + 1 - 1 = 0 := by omega
        rw [this]; omega
      · have h8 : 2 ^ (t + 1 - 1) = 2 * 2 ^ (t - 1) := by
          rw [show t + 1 - 1 = (t - 1) + 1 by omega, Nat.pow_succ]; omega
        rw [h8]; omega
      · omega
theorem nil_get (k : Nat) (q : Nat × va_E) : ¬ ([] : va_W)[k]? = some q := by simp
section LL
variable {G : GT Unit} {cc : ByteArray} {own : String} {rt : Option FieldType} {fr lo pc q : Nat} {lv : List (Nat × Value)} {st : List Value} {I : MI} {L : ML} {X : Option Unit}
theorem w_icmpgtE {x y : Int32} {off : Int} {tgt : Nat} (hc : Cx G cc own rt fr lo) (hd : decode cc pc = .ok (.if_icmp .gt off, 3)) (ht : (pc : Int) + off = (tgt : Int)) (e : q = pc + 3) (kt : y < x → WW G tgt lv st I L X) (kf : ¬ y < x → WW G q lv st I L X) : WW G pc lv (.int y :: .int x :: st) I L X := by
  subst e
  intro u hu H locs ls hP hD hS hl
  exact lv_icmp_gt hc.1 hc.2.1 hd ht (fun z => kt z u hu H locs ls hP hD hS hl) (fun z => kf z u hu H locs ls hP hD hS hl)
theorem w_iincE {i j : Nat} {n : Int} {x d v : Int32} {lv' : List (Nat × Value)} (hc : Cx G cc own rt fr lo) (hd : decode cc pc = .ok (.iinc i n, 3)) (hx : lv[j]? = some (i, .int x)) (hv : Int32.ofInt n = d) (hvv : x + d = v) (hn : i < gnL G) (hl0 : (i, Value.int v) :: lv.filter (fun q => !(q.1 == i) && !(q.1 + 1 == i && q.2.category == 2)) = lv') (e : q = pc + 3) (kk : WW G q lv' st I L X) : WW G pc lv st I L X := by
  subst e
  intro b hb H locs ls hP hD hS hl
  exact lv_iinc hc.1 hc.2.1 hd hl (k := j) (x := x) (by show (List.map _ lv)[j]? = _; rw [List.getElem?_map, hx]; rfl) (v := v) (by rw [hv]; exact hvv) hn (lv' := trl (gad G) lv') (by rw [← hl0, trl_filter (gad G) (fun a c => !(a == i) && !(a + 1 == i && c == 2))]; rfl) (fun ls' hl' => kk b hb H locs ls' hP hD hS hl')
theorem w_tswE {x : Int32} {len k : Nat} {df hi off : Int} {tgt : Nat} {offs : Array Int} (hc : Cx G cc own rt fr lo) (hd : decode cc pc = .ok (.tableswitch df 0 hi offs, len)) (hx : x.toInt = k) (hk : (k : Int) ≤ hi) (ho : offs[k]? = some off) (ht : (pc : Int) + off = (tgt : Int)) (kk : WW G tgt lv st I L X) : WW G pc lv (.int x :: st) I L X := by
  intro u hu H locs ls hP hD hS hl
  exact lv_tableIn hc.1 hc.2.1 hd (by omega) (by omega) (off := off) (by rw [show (x.toInt - 0).toNat = k by omega]; exact ho) ht (kk u hu H locs ls hP hD hS hl)
theorem w_tswD {x : Int32} {len : Nat} {df hi : Int} {tgt : Nat} {offs : Array Int} (hc : Cx G cc own rt fr lo) (hd : decode cc pc = .ok (.tableswitch df 0 hi offs, len)) (hx : hi < x.toInt) (ht : (pc : Int) + df = (tgt : Int)) (kk : WW G tgt lv st I L X) : WW G pc lv (.int x :: st) I L X := by
  intro u hu H locs ls hP hD hS hl
  exact lv_tableOut hc.1 hc.2.1 hd (Or.inr hx) ht (kk u hu H locs ls hP hD hS hl)
end LL

set_option maxRecDepth 100000 in
set_option maxHeartbeats 4000000 in
/-- the switch -/
theorem law_sw {G : GT Unit} {b Ls rm c s : Nat} {xs : Nat → Int32} {x3 : Int32} {I : MI} {L : ML} {X : Option Unit} {Inv : MI → ML → Nat → Prop} (hp : PRA Inv) (hc : Cx G code RL ret 14 552) (hX : LX G b Ls xs rm c s) (h1 : vp_in (x3 + 1) Ls) (h2 : vp_in (x3 + 2) Ls) (h3 : vp_in (x3 + 3) Ls) (h4 : vp_in (x3 + 4) Ls) (h5 : vp_in (x3 + 5) Ls) (hInv : Inv I L rm) (hrm : rm ≤ 5040) (hcb : c + 20 ≤ 600000) (hsb : s + 90748 ≤ 7302250)
    (kk : ∀ (G : GT Unit) (rm1 c1 s1 : Nat) (I2 : MI) (L2 : ML), Cx G code RL ret 14 552 → LX G b Ls xs rm1 c1 s1 → Inv I2 L2 rm1 → RS rm rm1 → c1 = c + mcA rm rm1 → s1 = s + msA rm rm1 → WW G 2377 [(0, .ref 4000000), (1, .ref 0), (2, .ref 43), (3, .int x3)] [] I2 L2 X) (k : Nat) (hk : k < 64) : WW G 33 [(0, .ref 4000000), (1, .ref 0), (2, .ref 43), (3, .int x3)] [.int (nI k)] I L X := by
  have hki : (nI k).toInt = k := nI_toInt (by omega)
  match k, hk, hki with
  | 0, _, hki => exact w_tswE (tgt := 288) hc dL_law_33 hki (by decide) rfl rfl (lc_0 hp.1 hc hX h1 h2 h3 h4 h5 hInv hrm hcb hsb kk)
  | 1, _, hki => exact w_tswE (tgt := 301) hc dL_law_33 hki (by decide) rfl rfl (lc_1 hp.2.1 hc hX h1 h2 h3 h4 h5 hInv hrm hcb hsb kk)
  | 2, _, hki => exact w_tswE (tgt := 364) hc dL_law_33 hki (by decide) rfl rfl (lc_2 hp.2.2.1 hc hX h1 h2 h3 h4 h5 hInv hrm hcb hsb kk)
  | 3, _, hki => exact w_tswE (tgt := 387) hc dL_law_33 hki (by decide) rfl rfl (lc_3 hp.2.2.2.1 hc hX h1 h2 h3 h4 h5 hInv hrm hcb hsb kk)
  | 4, _, hki => exact w_tswE (tgt := 410) hc dL_law_33 hki (by decide) rfl rfl (lc_4 hp.2.2.2.2.1 hc hX h1 h2 h3 h4 h5 hInv hrm hcb hsb kk)
  | 5, _, hki => exact w_tswE (tgt := 433) hc dL_law_33 hki (by decide) rfl rfl (lc_5 hp.2.2.2.2.2.1 hc hX h1 h2 h3 h4 h5 hInv hrm hcb hsb kk)
  | 6, _, hki => exact w_tswE (tgt := 457) hc dL_law_33 hki (by decide) rfl rfl (lc_6 hp.2.2.2.2.2.2.1 hc hX h1 h2 h3 h4 h5 hInv hrm hcb hsb kk)
  | 7, _, hki => exact w_tswE (tgt := 471) hc dL_law_33 hki (by decide) rfl rfl (lc_7 hp.2.2.2.2.2.2.2.1 hc hX h1 h2 h3 h4 h5 hInv hrm hcb hsb kk)
  | 8, _, hki => exact w_tswE (tgt := 534) hc dL_law_33 hki (by decide) rfl rfl (lc_8 hp.2.2.2.2.2.2.2.2.1 hc hX h1 h2 h3 h4 h5 hInv hrm hcb hsb kk)
  | 9, _, hki => exact w_tswE (tgt := 628) hc dL_law_33 hki (by decide) rfl rfl (lc_9 hp.2.2.2.2.2.2.2.2.2.1 hc hX h1 h2 h3 h4 h5 hInv hrm hcb hsb kk)
  | 10, _, hki => exact w_tswE (tgt := 682) hc dL_law_33 hki (by decide) rfl rfl (lc_10 hp.2.2.2.2.2.2.2.2.2.2.1 hc hX h1 h2 h3 h4 h5 hInv hrm hcb hsb kk)
  | 11, _, hki => exact w_tswE (tgt := 746) hc dL_law_33 hki (by decide) rfl rfl (lc_11 hp.2.2.2.2.2.2.2.2.2.2.2.1 hc hX h1 h2 h3 h4 h5 hInv hrm hcb hsb kk)
  | 12, _, hki => exact w_tswE (tgt := 809) hc dL_law_33 hki (by decide) rfl rfl (lc_12 hp.2.2.2.2.2.2.2.2.2.2.2.2.1 hc hX h1 h2 h3 h4 h5 hInv hrm hcb hsb kk)
  | 13, _, hki => exact w_tswE (tgt := 832) hc dL_law_33 hki (by decide) rfl rfl (lc_13 hp.2.2.2.2.2.2.2.2.2.2.2.2.2.1 hc hX h1 h2 h3 h4 h5 hInv hrm hcb hsb kk)
  | 14, _, hki => exact w_tswE (tgt := 845) hc dL_law_33 hki (by decide) rfl rfl (lc_14 hp.2.2.2.2.2.2.2.2.2.2.2.2.2.2.1 hc hX h1 h2 h3 h4 h5 hInv hrm hcb hsb kk)
  | 15, _, hki => exact w_tswE (tgt := 868) hc dL_law_33 hki (by decide) rfl rfl (lc_15 hp.2.2.2.2.2.2.2.2.2.2.2.2.2.2.2.1 hc hX h1 h2 h3 h4 h5 hInv hrm hcb hsb kk)
  | 16, _, hki => exact w_tswE (tgt := 891) hc dL_law_33 hki (by decide) rfl rfl (lc_16 hp.2.2.2.2.2.2.2.2.2.2.2.2.2.2.2.2.1 hc hX h1 h2 h3 h4 h5 hInv hrm hcb hsb kk)
  | 17, _, hki => exact w_tswE (tgt := 904) hc dL_law_33 hki (by decide) rfl rfl (lc_17 hp.2.2.2.2.2.2.2.2.2.2.2.2.2.2.2.2.2.1 hc hX h1 h2 h3 h4 h5 hInv hrm hcb hsb kk)
  | 18, _, hki => exact w_tswE (tgt := 957) hc dL_law_33 hki (by decide) rfl rfl (lc_18 hp.2.2.2.2.2.2.2.2.2.2.2.2.2.2.2.2.2.2.1 hc hX h1 h2 h3 h4 h5 hInv hrm hcb hsb kk)
  | 19, _, hki => exact w_tswE (tgt := 1010) hc dL_law_33 hki (by decide) rfl rfl (lc_19 hp.2.2.2.2.2.2.2.2.2.2.2.2.2.2.2.2.2.2.2.1 hc hX h1 h2 h3 h4 h5 hInv hrm hcb hsb kk)
  | 20, _, hki => exact w_tswE (tgt := 1034) hc dL_law_33 hki (by decide) rfl rfl (lc_20 hp.2.2.2.2.2.2.2.2.2.2.2.2.2.2.2.2.2.2.2.2.1 hc hX h1 h2 h3 h4 h5 hInv hrm hcb hsb kk)
  | 21, _, hki => exact w_tswE (tgt := 1087) hc dL_law_33 hki (by decide) rfl rfl (lc_21 hp.2.2.2.2.2.2.2.2.2.2.2.2.2.2.2.2.2.2.2.2.2.1 hc hX h1 h2 h3 h4 h5 hInv hrm hcb hsb kk)
  | 22, _, hki => exact w_tswE (tgt := 1150) hc dL_law_33 hki (by decide) rfl rfl (lc_22 hp.2.2.2.2.2.2.2.2.2.2.2.2.2.2.2.2.2.2.2.2.2.2.1 hc hX h1 h2 h3 h4 h5 hInv hrm hcb hsb kk)
  | 23, _, hki => exact w_tswE (tgt := 1173) hc dL_law_33 hki (by decide) rfl rfl (lc_23 hp.2.2.2.2.2.2.2.2.2.2.2.2.2.2.2.2.2.2.2.2.2.2.2.1 hc hX h1 h2 h3 h4 h5 hInv hrm hcb hsb kk)
  | 24, _, hki => exact w_tswE (tgt := 1196) hc dL_law_33 hki (by decide) rfl rfl (lc_24 hp.2.2.2.2.2.2.2.2.2.2.2.2.2.2.2.2.2.2.2.2.2.2.2.2.1 hc hX h1 h2 h3 h4 h5 hInv hrm hcb hsb kk)
  | 25, _, hki => exact w_tswE (tgt := 1219) hc dL_law_33 hki (by decide) rfl rfl (lc_25 hp.2.2.2.2.2.2.2.2.2.2.2.2.2.2.2.2.2.2.2.2.2.2.2.2.2.1 hc hX h1 h2 h3 h4 h5 hInv hrm hcb hsb kk)
  | 26, _, hki => exact w_tswE (tgt := 1232) hc dL_law_33 hki (by decide) rfl rfl (lc_26 hp.2.2.2.2.2.2.2.2.2.2.2.2.2.2.2.2.2.2.2.2.2.2.2.2.2.2.1 hc hX h1 h2 h3 h4 h5 hInv hrm hcb hsb kk)
  | 27, _, hki => exact w_tswE (tgt := 1255) hc dL_law_33 hki (by decide) rfl rfl (lc_27 hp.2.2.2.2.2.2.2.2.2.2.2.2.2.2.2.2.2.2.2.2.2.2.2.2.2.2.2.1 hc hX h1 h2 h3 h4 h5 hInv hrm hcb hsb kk)
  | 28, _, hki => exact w_tswE (tgt := 1278) hc dL_law_33 hki (by decide) rfl rfl (lc_28 hp.2.2.2.2.2.2.2.2.2.2.2.2.2.2.2.2.2.2.2.2.2.2.2.2.2.2.2.2.1 hc hX h1 h2 h3 h4 h5 hInv hrm hcb hsb kk)
  | 29, _, hki => exact w_tswE (tgt := 1291) hc dL_law_33 hki (by decide) rfl rfl (lc_29 hp.2.2.2.2.2.2.2.2.2.2.2.2.2.2.2.2.2.2.2.2.2.2.2.2.2.2.2.2.2.1 hc hX h1 h2 h3 h4 h5 hInv hrm hcb hsb kk)
  | 30, _, hki => exact w_tswE (tgt := 1344) hc dL_law_33 hki (by decide) rfl rfl (lc_30 hp.2.2.2.2.2.2.2.2.2.2.2.2.2.2.2.2.2.2.2.2.2.2.2.2.2.2.2.2.2.2.1 hc hX h1 h2 h3 h4 h5 hInv hrm hcb hsb kk)
  | 31, _, hki => exact w_tswE (tgt := 1367) hc dL_law_33 hki (by decide) rfl rfl (lc_31 hp.2.2.2.2.2.2.2.2.2.2.2.2.2.2.2.2.2.2.2.2.2.2.2.2.2.2.2.2.2.2.2.1 hc hX h1 h2 h3 h4 h5 hInv hrm hcb hsb kk)
  | 32, _, hki => exact w_tswE (tgt := 1390) hc dL_law_33 hki (by decide) rfl rfl (lc_32 hp.2.2.2.2.2.2.2.2.2.2.2.2.2.2.2.2.2.2.2.2.2.2.2.2.2.2.2.2.2.2.2.2.1 hc hX h1 h2 h3 h4 h5 hInv hrm hcb hsb kk)
  | 33, _, hki => exact w_tswE (tgt := 1484) hc dL_law_33 hki (by decide) rfl rfl (lc_33 hp.2.2.2.2.2.2.2.2.2.2.2.2.2.2.2.2.2.2.2.2.2.2.2.2.2.2.2.2.2.2.2.2.2.1 hc hX h1 h2 h3 h4 h5 hInv hrm hcb hsb kk)
  | 34, _, hki => exact w_tswE (tgt := 1578) hc dL_law_33 hki (by decide) rfl rfl (lc_34 hp.2.2.2.2.2.2.2.2.2.2.2.2.2.2.2.2.2.2.2.2.2.2.2.2.2.2.2.2.2.2.2.2.2.2.1 hc hX h1 h2 h3 h4 h5 hInv hrm hcb hsb kk)
  | 35, _, hki => exact w_tswE (tgt := 1671) hc dL_law_33 hki (by decide) rfl rfl (lc_35 hp.2.2.2.2.2.2.2.2.2.2.2.2.2.2.2.2.2.2.2.2.2.2.2.2.2.2.2.2.2.2.2.2.2.2.2.1 hc hX h1 h2 h3 h4 h5 hInv hrm hcb hsb kk)
  | 36, _, hki => exact w_tswE (tgt := 1694) hc dL_law_33 hki (by decide) rfl rfl (lc_36 hp.2.2.2.2.2.2.2.2.2.2.2.2.2.2.2.2.2.2.2.2.2.2.2.2.2.2.2.2.2.2.2.2.2.2.2.2.1 hc hX h1 h2 h3 h4 h5 hInv hrm hcb hsb kk)
  | 37, _, hki => exact w_tswE (tgt := 1717) hc dL_law_33 hki (by decide) rfl rfl (lc_37 hp.2.2.2.2.2.2.2.2.2.2.2.2.2.2.2.2.2.2.2.2.2.2.2.2.2.2.2.2.2.2.2.2.2.2.2.2.2.1 hc hX h1 h2 h3 h4 h5 hInv hrm hcb hsb kk)
  | 38, _, hki => exact w_tswE (tgt := 1750) hc dL_law_33 hki (by decide) rfl rfl (lc_38 hp.2.2.2.2.2.2.2.2.2.2.2.2.2.2.2.2.2.2.2.2.2.2.2.2.2.2.2.2.2.2.2.2.2.2.2.2.2.2.1 hc hX h1 h2 h3 h4 h5 hInv hrm hcb hsb kk)
  | 39, _, hki => exact w_tswE (tgt := 1773) hc dL_law_33 hki (by decide) rfl rfl (lc_39 hp.2.2.2.2.2.2.2.2.2.2.2.2.2.2.2.2.2.2.2.2.2.2.2.2.2.2.2.2.2.2.2.2.2.2.2.2.2.2.2.1 hc hX h1 h2 h3 h4 h5 hInv hrm hcb hsb kk)
  | 40, _, hki => exact w_tswE (tgt := 1786) hc dL_law_33 hki (by decide) rfl rfl (lc_40 hp.2.2.2.2.2.2.2.2.2.2.2.2.2.2.2.2.2.2.2.2.2.2.2.2.2.2.2.2.2.2.2.2.2.2.2.2.2.2.2.2.1 hc hX h1 h2 h3 h4 h5 hInv hrm hcb hsb kk)
  | 41, _, hki => exact w_tswE (tgt := 1799) hc dL_law_33 hki (by decide) rfl rfl (lc_41 hp.2.2.2.2.2.2.2.2.2.2.2.2.2.2.2.2.2.2.2.2.2.2.2.2.2.2.2.2.2.2.2.2.2.2.2.2.2.2.2.2.2.1 hc hX h1 h2 h3 h4 h5 hInv hrm hcb hsb kk)
  | 42, _, hki => exact w_tswE (tgt := 1822) hc dL_law_33 hki (by decide) rfl rfl (lc_42 hp.2.2.2.2.2.2.2.2.2.2.2.2.2.2.2.2.2.2.2.2.2.2.2.2.2.2.2.2.2.2.2.2.2.2.2.2.2.2.2.2.2.2.1 hc hX h1 h2 h3 h4 h5 hInv hrm hcb hsb kk)
  | 43, _, hki => exact w_tswE (tgt := 1845) hc dL_law_33 hki (by decide) rfl rfl (lc_43 hp.2.2.2.2.2.2.2.2.2.2.2.2.2.2.2.2.2.2.2.2.2.2.2.2.2.2.2.2.2.2.2.2.2.2.2.2.2.2.2.2.2.2.2.1 hc hX h1 h2 h3 h4 h5 hInv hrm hcb hsb kk)
  | 44, _, hki => exact w_tswE (tgt := 1878) hc dL_law_33 hki (by decide) rfl rfl (lc_44 hp.2.2.2.2.2.2.2.2.2.2.2.2.2.2.2.2.2.2.2.2.2.2.2.2.2.2.2.2.2.2.2.2.2.2.2.2.2.2.2.2.2.2.2.2.1 hc hX h1 h2 h3 h4 h5 hInv hrm hcb hsb kk)
  | 45, _, hki => exact w_tswE (tgt := 1911) hc dL_law_33 hki (by decide) rfl rfl (lc_45 hp.2.2.2.2.2.2.2.2.2.2.2.2.2.2.2.2.2.2.2.2.2.2.2.2.2.2.2.2.2.2.2.2.2.2.2.2.2.2.2.2.2.2.2.2.2.1 hc hX h1 h2 h3 h4 h5 hInv hrm hcb hsb kk)
  | 46, _, hki => exact w_tswE (tgt := 1924) hc dL_law_33 hki (by decide) rfl rfl (lc_46 hp.2.2.2.2.2.2.2.2.2.2.2.2.2.2.2.2.2.2.2.2.2.2.2.2.2.2.2.2.2.2.2.2.2.2.2.2.2.2.2.2.2.2.2.2.2.2.1 hc hX h1 h2 h3 h4 h5 hInv hrm hcb hsb kk)
  | 47, _, hki => exact w_tswE (tgt := 1947) hc dL_law_33 hki (by decide) rfl rfl (lc_47 hp.2.2.2.2.2.2.2.2.2.2.2.2.2.2.2.2.2.2.2.2.2.2.2.2.2.2.2.2.2.2.2.2.2.2.2.2.2.2.2.2.2.2.2.2.2.2.2.1 hc hX h1 h2 h3 h4 h5 hInv hrm hcb hsb kk)
  | 48, _, hki => exact w_tswE (tgt := 1971) hc dL_law_33 hki (by decide) rfl rfl (lc_48 hp.2.2.2.2.2.2.2.2.2.2.2.2.2.2.2.2.2.2.2.2.2.2.2.2.2.2.2.2.2.2.2.2.2.2.2.2.2.2.2.2.2.2.2.2.2.2.2.2.1 hc hX h1 h2 h3 h4 h5 hInv hrm hcb hsb kk)
  | 49, _, hki => exact w_tswE (tgt := 2024) hc dL_law_33 hki (by decide) rfl rfl (lc_49 hp.2.2.2.2.2.2.2.2.2.2.2.2.2.2.2.2.2.2.2.2.2.2.2.2.2.2.2.2.2.2.2.2.2.2.2.2.2.2.2.2.2.2.2.2.2.2.2.2.2.1 hc hX h1 h2 h3 h4 h5 hInv hrm hcb hsb kk)
  | 50, _, hki => exact w_tswE (tgt := 2087) hc dL_law_33 hki (by decide) rfl rfl (lc_50 hp.2.2.2.2.2.2.2.2.2.2.2.2.2.2.2.2.2.2.2.2.2.2.2.2.2.2.2.2.2.2.2.2.2.2.2.2.2.2.2.2.2.2.2.2.2.2.2.2.2.2.1 hc hX h1 h2 h3 h4 h5 hInv hrm hcb hsb kk)
  | 51, _, hki => exact w_tswE (tgt := 2100) hc dL_law_33 hki (by decide) rfl rfl (lc_51 hp.2.2.2.2.2.2.2.2.2.2.2.2.2.2.2.2.2.2.2.2.2.2.2.2.2.2.2.2.2.2.2.2.2.2.2.2.2.2.2.2.2.2.2.2.2.2.2.2.2.2.2.1 hc hX h1 h2 h3 h4 h5 hInv hrm hcb hsb kk)
  | 52, _, hki => exact w_tswE (tgt := 2123) hc dL_law_33 hki (by decide) rfl rfl (lc_52 hp.2.2.2.2.2.2.2.2.2.2.2.2.2.2.2.2.2.2.2.2.2.2.2.2.2.2.2.2.2.2.2.2.2.2.2.2.2.2.2.2.2.2.2.2.2.2.2.2.2.2.2.2.1 hc hX h1 h2 h3 h4 h5 hInv hrm hcb hsb kk)
  | 53, _, hki => exact w_tswE (tgt := 2146) hc dL_law_33 hki (by decide) rfl rfl (lc_53 hp.2.2.2.2.2.2.2.2.2.2.2.2.2.2.2.2.2.2.2.2.2.2.2.2.2.2.2.2.2.2.2.2.2.2.2.2.2.2.2.2.2.2.2.2.2.2.2.2.2.2.2.2.2.1 hc hX h1 h2 h3 h4 h5 hInv hrm hcb hsb kk)
  | 54, _, hki => exact w_tswE (tgt := 2199) hc dL_law_33 hki (by decide) rfl rfl (lc_54 hp.2.2.2.2.2.2.2.2.2.2.2.2.2.2.2.2.2.2.2.2.2.2.2.2.2.2.2.2.2.2.2.2.2.2.2.2.2.2.2.2.2.2.2.2.2.2.2.2.2.2.2.2.2.2.1 hc hX h1 h2 h3 h4 h5 hInv hrm hcb hsb kk)
  | 55, _, hki => exact w_tswE (tgt := 2212) hc dL_law_33 hki (by decide) rfl rfl (lc_55 hp.2.2.2.2.2.2.2.2.2.2.2.2.2.2.2.2.2.2.2.2.2.2.2.2.2.2.2.2.2.2.2.2.2.2.2.2.2.2.2.2.2.2.2.2.2.2.2.2.2.2.2.2.2.2.2.1 hc hX h1 h2 h3 h4 h5 hInv hrm hcb hsb kk)
  | 56, _, hki => exact w_tswE (tgt := 2265) hc dL_law_33 hki (by decide) rfl rfl (lc_56 hp.2.2.2.2.2.2.2.2.2.2.2.2.2.2.2.2.2.2.2.2.2.2.2.2.2.2.2.2.2.2.2.2.2.2.2.2.2.2.2.2.2.2.2.2.2.2.2.2.2.2.2.2.2.2.2.2.1 hc hX h1 h2 h3 h4 h5 hInv hrm hcb hsb kk)
  | 57, _, hki => exact w_tswE (tgt := 2288) hc dL_law_33 hki (by decide) rfl rfl (lc_57 hp.2.2.2.2.2.2.2.2.2.2.2.2.2.2.2.2.2.2.2.2.2.2.2.2.2.2.2.2.2.2.2.2.2.2.2.2.2.2.2.2.2.2.2.2.2.2.2.2.2.2.2.2.2.2.2.2.2.1 hc hX h1 h2 h3 h4 h5 hInv hrm hcb hsb kk)
  | 58, _, hki => exact w_tswE (tgt := 2301) hc dL_law_33 hki (by decide) rfl rfl (lc_58 hp.2.2.2.2.2.2.2.2.2.2.2.2.2.2.2.2.2.2.2.2.2.2.2.2.2.2.2.2.2.2.2.2.2.2.2.2.2.2.2.2.2.2.2.2.2.2.2.2.2.2.2.2.2.2.2.2.2.2.1 hc hX h1 h2 h3 h4 h5 hInv hrm hcb hsb kk)
  | 59, _, hki => exact w_tswE (tgt := 2354) hc dL_law_33 hki (by decide) rfl rfl (lc_59 hp.2.2.2.2.2.2.2.2.2.2.2.2.2.2.2.2.2.2.2.2.2.2.2.2.2.2.2.2.2.2.2.2.2.2.2.2.2.2.2.2.2.2.2.2.2.2.2.2.2.2.2.2.2.2.2.2.2.2.2 hc hX h1 h2 h3 h4 h5 hInv hrm hcb hsb kk)
  | k + 60, _, hki => exact w_tswD (tgt := 2377) hc dL_law_33 (by rw [hki]; omega) rfl (kk G rm c s I L hc hX hInv (Or.inl rfl) (by rw [mcA_0]; rfl) (by rw [msA_0]; rfl))
set_option maxRecDepth 100000 in
set_option maxHeartbeats 4000000 in
/-- the loop -/
theorem law_loop {Inv : MI → ML → Nat → Prop} (hp : PRA Inv) {b Ls : Nat} {xs : Nat → Int32} (hLs : Ls ≤ 3072) {X : Option Unit} : ∀ (n i rm t c s : Nat) (G : GT Unit) (x3 : Int32) (I : MI) (L : ML), Ls + 6 ≤ i + n → x3 = nI i → i ≤ Ls + 6 → Cx G code RL ret 14 552 → LX G b Ls xs rm c s → Inv I L rm → pot rm t → c ≤ 69 + 20 * t → s ≤ 74315 + 90748 * t → WW G 18 [(0, .ref 4000000), (1, .ref 0), (2, .ref 43), (3, .int x3)] [] I L X := by
  intro n
  induction n with
  | zero =>
    intro i rm t c s G x3 I L hin e3 hi hc hX hInv hpt hcc hss
    have h14 := hpt.le14
    have hN : ∀ i, Nat.blt i 4 = true → i < gnL G := fun i h => hX.2.2.2.2.2.2.2.2.2.2.2 ▸ Nat.blt_eq.mp h
    refine w_iload_n (q := 19) (i := 3) (j := 3) hc dL_law_18 rfl rfl rfl ?_
    refine w_aload_n (q := 20) (i := 0) (j := 0) hc dL_law_19 rfl rfl rfl ?_
    refine w_slen4 (q := 21) hc hX dL_law_20 rfl ?_
    refine w_bipush (q := 23) hc dL_law_21 cb_6 rfl ?_
    refine w_isub (q := 24) hc dL_law_23 rfl ?_
    refine w_icmpgtE (q := 27) (tgt := 2383) hc dL_law_24 rfl rfl (fun _ => ?_) (fun hz => ?_)
    · refine w_iconst (q := 2384) hc dL_law_2383 ci_1 rfl ?_
      exact w_lawret hc hX (by omega) (by omega) dL_law_2384
    · exfalso
      apply hz
      rw [e3, Int32.lt_iff_toInt_lt, show (6 : Int32) = nI 6 from rfl, show Int32.ofNat Ls = nI Ls from rfl, pk_sub_toInt (by omega) (by omega), nI_toInt (by omega)]
      omega
  | succ n ih =>
    intro i rm t c s G x3 I L hin e3 hi hc hX hInv hpt hcc hss
    have h14 := hpt.le14
    have hrm := hpt.rm
    have hN : ∀ i, Nat.blt i 4 = true → i < gnL G := fun i h => hX.2.2.2.2.2.2.2.2.2.2.2 ▸ Nat.blt_eq.mp h
    refine w_iload_n (q := 19) (i := 3) (j := 3) hc dL_law_18 rfl rfl rfl ?_
    refine w_aload_n (q := 20) (i := 0) (j := 0) hc dL_law_19 rfl rfl rfl ?_
    refine w_slen4 (q := 21) hc hX dL_law_20 rfl ?_
    refine w_bipush (q := 23) hc dL_law_21 cb_6 rfl ?_
    refine w_isub (q := 24) hc dL_law_23 rfl ?_
    refine w_icmpgtE (q := 27) (tgt := 2383) hc dL_law_24 rfl rfl (fun _ => ?_) (fun hz => ?_)
    · refine w_iconst (q := 2384) hc dL_law_2383 ci_1 rfl ?_
      exact w_lawret hc hX (by omega) (by omega) dL_law_2384
    · have hle : i + 6 ≤ Ls := by
        rw [e3, Int32.lt_iff_toInt_lt, show (6 : Int32) = nI 6 from rfl, show Int32.ofNat Ls = nI Ls from rfl, pk_sub_toInt (by omega) (by omega), nI_toInt (by omega)] at hz
        omega
      have hv : ∀ j : Nat, j < 6 → vp_in (x3 + nI j) Ls := fun j hj => by
        rw [e3, nI_add]; exact vp_in_nI (by omega) (by omega)
      have hv0 : vp_in x3 Ls := by rw [e3]; exact vp_in_nI (by omega) (by omega)
      refine w_aload_n (q := 28) (i := 0) (j := 0) hc dL_law_27 rfl rfl rfl ?_
      refine w_iload_n (q := 29) (i := 3) (j := 3) hc dL_law_28 rfl rfl rfl ?_
      refine w_sld4 (q := 30) hc hX dL_law_29 hv0 rfl ?_
      refine w_bipush (q := 32) hc dL_law_30 cb_63 rfl ?_
      refine w_iand (q := 33) hc dL_law_32 rfl ?_
      obtain ⟨k, hk, ek⟩ := pk_andE (xs (ix x3)) (m := 63) 6 (by decide)
      rw [ek]
      refine law_sw hp hc hX (hv 1 (by decide)) (hv 2 (by decide)) (hv 3 (by decide)) (hv 4 (by decide)) (hv 5 (by decide)) hInv hrm (by omega) (by omega) (fun G rm1 c1 s1 I2 L2 hc hX hI2 hrs e1 e2 => ?_) k hk
      have hN : ∀ i, Nat.blt i 4 = true → i < gnL G := fun i h => hX.2.2.2.2.2.2.2.2.2.2.2 ▸ Nat.blt_eq.mp h
      refine w_iincE (q := 2380) (i := 3) (j := 3) (v := nI (i + 6)) (lv' := [(3, .int (nI (i + 6))), (0, .ref 4000000), (1, .ref 0), (2, .ref 43)]) hc dL_law_2377 rfl ci_6 (by rw [e3, show (6 : Int32) = nI 6 from rfl, nI_add]) (hN 3 rfl) rfl rfl ?_
      refine w_goto (tgt := 18) hc dL_law_2380 rfl ?_
      refine w_sub [1, 2, 3, 0] rfl ?_
      by_cases hne : rm1 = rm
      · have e1' : c1 = c := by rw [e1, hne, mcA_0]; rfl
        have e2' : s1 = s := by rw [e2, hne, msA_0]; rfl
        exact ih (i + 6) rm1 t c1 s1 G _ I2 L2 (by omega) rfl (by omega) hc hX hI2 (hne ▸ hpt) (by omega) (by omega)
      · have hle5 := hrs.le hrm
        have hm1 := mcA_le rm rm1
        have hm2 := msA_le (r := rm) hle5
        exact ih (i + 6) rm1 (t + 1) c1 s1 G _ I2 L2 (by omega) rfl (by omega) hc hX hI2 (hpt.step hrs hne) (by omega) (by omega)
set_option maxRecDepth 100000 in
set_option maxHeartbeats 4000000 in
/-- the law, from its entry, out of the pure pairs -/
theorem law_start {Inv : MI → ML → Nat → Prop} (hp : PRA Inv) (h0 : PR_init Inv) {p : Program} {e : Env} {s : State} {m : MethodId} {below : List Frame} {meth : Method} {c : Code} (l : Launch) {b Ls : Nat} {xs : Nat → Int32} (hL : Ls ≤ 3072) (C0 : lw_At p s m meth c b Ls xs) : W p l e room_1 s m #[Value.ref b] below meth c s.heap [] 0 0 (lw_Z below #[Value.ref b] s) (entryFrame m ([Value.ref b] : List Value).toArray 4) := by
  obtain ⟨D, tc, ad, hKK, hEx, hb4⟩ := law_ex C0
  obtain ⟨hx, hb, hr, hml, hown, hts, hX, hbl, hlocks, hgv⟩ := id C0
  obtain ⟨I2, L2, e9, hInv⟩ := h0
  have hl := lv_entry ([.ref b]) (n := 4) (Nat.le_of_ble_eq_true rfl)
  rw [lg_entry_eq]
  have key : ∀ G : GT Unit, Cx G code RL ret 14 552 → LSx G b Ls xs 0 0 0 0 → WW G 0 [(0, .ref 4000000)] [] (fun _ _ => 0) (fun _ _ => 0) (some ()) := by
    intro G hc hX
    refine w_newL (q := 3) (C := RX7) (T := TX7) (N := 7) (ty := tyX7) hc hX dL_law_0 rfl (by decide) rfl rfl inA_X7 tyX7_ok (by decide +kernel) (tb1 (List.mem_of_getElem? (i := 17) rfl) rfl) (tb1 (List.mem_of_getElem? (i := 18) rfl) rfl) (tb1 (List.mem_of_getElem? (i := 1) rfl) rfl) rfl rfl (rp_none rfl (by decide)) (by decide) (rp_ne rfl (by decide)) (Nat.le_of_ble_eq_true rfl) (Nat.le_of_ble_eq_true rfl) rfl rfl rfl (fun G hc hX => ?_)
    refine w_dup_ref (q := 4) hc dL_law_3 rfl ?_
    refine w_ctorL (q := 7) (st := [.ref 0]) (n := 1) (m := 0) (n' := 43) (m' := 42) (c := 1) (s := 7) rfl hc hX (k_X7_0 (fun _ _ => rfl) (fun _ _ => rfl)) dL_law_4 ml_L_9 cf_X7_init im_X7_init rfl (Nat.le_of_ble_eq_true rfl) ⟨Nat.le_of_ble_eq_true rfl, Nat.le_of_ble_eq_true rfl⟩ (Nat.le_of_ble_eq_true rfl) (Nat.le_of_ble_eq_true rfl) (by decide) rfl rfl rfl (fun G hc hX => ?_)
    have hN : ∀ i, Nat.blt i 4 = true → i < gnL G := fun i h => hX.2.2.2.2.2.2.2.2.2.2.2 ▸ Nat.blt_eq.mp h
    refine w_astore_n (q := 8) (i := 1) (lv' := [(1, .ref 0), (0, .ref 4000000)]) hc dL_law_7 rfl (hN 1 rfl) rfl rfl ?_
    refine w_newL (q := 11) (C := RX8) (T := TX8) (N := 45) (ty := tyX8) hc hX dL_law_8 rfl (by decide) rfl rfl inA_X8 tyX8_ok (by decide +kernel) (tb6 (List.mem_of_getElem? (i := 42) rfl) rfl) (tb6 (List.mem_of_getElem? (i := 43) rfl) rfl) (tb1 (List.mem_of_getElem? (i := 7) rfl) rfl) (by funext j; rfl) rfl (rp_none rfl (by decide)) (by decide) (rp_ne rfl (by decide)) (Nat.le_of_ble_eq_true rfl) (Nat.le_of_ble_eq_true rfl) rfl rfl rfl (fun G hc hX => ?_)
    refine w_dup_ref (q := 12) hc dL_law_11 rfl ?_
    refine w_ctorL (q := 15) (st := [.ref 43]) (n := 44) (m := 42) (n' := 69) (m' := 67) (c := 44) (s := 2836) e9 hc hX (k_X8_43 (fun p hp => by show up2 (up2 (fun _ _ => (0 : Int32)) 1 14 (-1)) 1 15 (-1) p = _; rw [up2_ne (by omega), up2_ne (by omega)]) (fun _ _ => rfl)) dL_law_12 ml_L_12 cf_X8_init im_X8_init rfl (Nat.le_of_ble_eq_true rfl) ⟨Nat.le_of_ble_eq_true rfl, Nat.le_of_ble_eq_true rfl⟩ (Nat.le_of_ble_eq_true rfl) (Nat.le_of_ble_eq_true rfl) (by decide) rfl rfl rfl (fun G hc hX => ?_)
    have hN : ∀ i, Nat.blt i 4 = true → i < gnL G := fun i h => hX.2.2.2.2.2.2.2.2.2.2.2 ▸ Nat.blt_eq.mp h
    refine w_astore_n (q := 16) (i := 2) (lv' := [(2, .ref 43), (1, .ref 0), (0, .ref 4000000)]) hc dL_law_15 rfl (hN 2 rfl) rfl rfl ?_
    refine w_iconst (q := 17) hc dL_law_16 ci_0 rfl ?_
    refine w_istore_n (q := 18) (i := 3) (lv' := [(3, .int 0), (2, .ref 43), (1, .ref 0), (0, .ref 4000000)]) hc dL_law_17 rfl (hN 3 rfl) rfl rfl ?_
    refine w_sub [3, 2, 1, 0] rfl ?_
    exact law_loop hp hL (Ls + 6) 0 0 0 69 74315 G 0 I2 L2 (by omega) rfl (by omega) hc ⟨hX.1.trans K0_69, hX.2.1.trans (rp_full (by decide +kernel)), hX.2.2⟩ hInv (Or.inl ⟨rfl, rfl⟩) (by omega) (by omega)
  have hS : va_S (fun q : Nat => s.heap.size ≤ q) s.heap s.heap [] := va_S.rf
  have hl2 : lv_has ((lg_sl [.ref b] ++ List.replicate (4 - (lg_sl [.ref b]).length) Slot.unset).toArray) 4 (trl ad [(0, .ref 4000000)]) := by
    show lv_has _ 4 [(0, .ref (ad 4000000))]
    rw [hb4]; exact hl
  have h8 := key ((p, l, e, room_1, s, m, #[Value.ref b], below, meth, c), (D, tc, ad, fun q : Nat => s.heap.size ≤ q), (4, 0, 0), (K0.take 0, Rp RL0 Rb0 0), fun _ => lw_Z below #[Value.ref b] s)
    ⟨hx, hb, hml, hown, fun w hw => hts w (wsA_tbl w hw), hKK, fun q h => h, hr, hlocks, ⟨rfl, rfl, Nat.zero_le _, Nat.zero_le _⟩, hEx⟩ ⟨rfl, rfl, rfl, rfl, hb4, rfl, rfl, hX, hbl, fun _ => rfl, rfl, rfl⟩ () rfl s.heap [] _ (fun k q h => absurd h (nil_get k q)) ⟨fun i j p q h => absurd h (nil_get i p), fun k q h => absurd h (nil_get k q)⟩ hS hl2
  exact h8
