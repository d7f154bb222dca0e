/-! Group.all -/
section AL
variable {β : Type} {G : GT β} {cc : ByteArray} {own : String} {rt : Option FieldType} {fr lo pc q : Nat} {lv : List (Nat × Value)} {st : List Value} {I : MI} {L : ML} {X : Option β}
theorem w_ifnonnullR (hc : Cx G cc own rt fr lo) {x : Nat} {off : Int} {tgt : Nat} (hd : decode cc pc = .ok (.ifnonnull off, 3)) (ht : (pc : Int) + off = (tgt : Int)) (kk : WW G tgt lv st I L X) : WW G pc lv (.ref x :: st) I L X := by
  intro b hb H locs ls hP hD hS hl
  exact lv_ifnonnull hc.1 hc.2.1 hd ht (kk b hb H locs ls hP hD hS hl)
theorem w_ifnonnullN (hc : Cx G cc own rt fr lo) {off : Int} (hd : decode cc pc = .ok (.ifnonnull off, 3)) (e : q = pc + 3) (kk : WW G q lv st I L X) : WW G pc lv (.null :: st) I L X := by
  subst e
  intro b hb H locs ls hP hD hS hl
  exact lv_ifnonnullN hc.1 hc.2.1 hd (kk b hb H locs ls hP hD hS hl)
theorem ce_ren {tc : Nat → ClassId} {ad ad' : Nat → Nat} {R R' : MR} {I I' : MI} {L L' : ML} {p g : Nat} (hR : ∀ j, (R' p j).map ad' = (R g j).map ad) (hI : I' p = I g) (hL : L' p = L g) (k : Nat × Nat) : ce tc ad' R' I' L' p k = ce tc ad R I L g k := by
  unfold ce fvs fv
  simp only [hR, hI, hL]
end AL
def cutI (N : Nat) (I : MI) : MI := fun p => if p < N then I p else fun _ => 0
def cutL (N : Nat) (L : ML) : ML := fun p => if p < N then L p else fun _ => 0
/-- what stays while all() makes a roster -/
def BXX {γ : Type} (G : GT γ) (ad0 : Nat → Nat) (rm0 : Nat) (an : γ → Option Value) (me : γ → Mm) (ro : γ → Nat) (K : KT) (R : MR) (c s : Nat) : Prop :=
  (∀ b, gQ G b = MQ (gbel G) (QAc (gD G) (gtc G) ad0 rm0 (gs G).heap.size an me ro b) (ga G) (gs G) (mcA rm0 (ro b)) (msA rm0 (ro b)) (aA ad0 (lK rm0) (gs G).heap.size)) ∧ agr ad0 (gad G) ∧ gA G = aA ad0 (lK rm0) (gs G).heap.size ∧ gK G = K ∧ gR G = R ∧ gcl G = c ∧ gsl G = s
theorem Rbr_lt {rm N p j : Nat} (h : p < N) : Rbr rm N p j = lR rm p j := if_pos h
theorem Rbr_ge {rm N j : Nat} : Rbr rm N N j = none := by unfold Rbr; rw [if_neg (by omega), if_neg (by omega)]
theorem lR_neN {rm N p j : Nat} (hN : okN rm N) (hp : p < N) : Rbr rm N p j ≠ some N := by
  rw [Rbr_lt hp]
  intro h
  have := lR_ltN hN hp h
  omega
theorem okN_lo {rm N : Nat} (h : okN rm N) : 69 ≤ N ∧ N ≤ 89 := by rcases h with h | h <;> omega
section AM
variable {γ : Type} {G : GT γ} {cc : ByteArray} {rt : Option FieldType} {fr lo pc q : Nat} {lv : List (Nat × Value)} {st : List Value} {I : MI} {L : ML} {X : Option γ} {ad0 : Nat → Nat} {rm N nL0 : Nat} {an : γ → Option Value} {me : γ → Mm} {ro : γ → Nat}
theorem w_mkA (hc : Cx G cc RX2 rt fr lo) (hX : AXX G ad0 rm rm an me ro) (hRm : gRm G = rmA fr lo) (hn0 : gnL G = nL0) (hN : okN rm N) (hd : decode cc pc = .ok (.new 107, 3)) (hol : lv.all (fun q => oknv 69 q.2) = true) (hos : st.all (oknv 69) = true) (e : q = pc + 3)
    (kk : ∀ G : GT γ, Cx G cc RX2 rt fr lo → BXX G ad0 rm an me ro (lK rm ++ [(4, 0)]) (Rbr rm N) 1 16 → gRm G = rmA fr lo → gnL G = nL0 → WW G q lv (.ref N :: st) (cutI N I) (cutL N L) X) : WW G pc lv st I L X := by
  obtain ⟨hQ, hag, hAe, hKe, hRe, hcl, hsl⟩ := hX
  have hlen := lK_lenN hN
  have hlo := okN_lo hN
  have hcl0 : gcl G = 0 := hcl.trans (mcA_0 rm)
  have hsl0 : gsl G = 0 := hsl.trans (msA_0 rm)
  refine w_renum (ad' := gad G) (K' := lK rm) (R' := Rbr rm N) (I' := cutI N I) (L' := cutL N L) (fun p => p) (fun p hp => by rw [hKe]; exact hp) (fun _ _ _ _ h => h) (fun p _ => by rw [hKe]) (fun _ _ => rfl) (fun p k hk => ?_) rfl rfl ?_
  · have hp : p < N := by rw [← hlen]; exact (List.getElem?_eq_some_iff.mp hk).1
    exact ce_ren (fun j => by rw [Rbr_lt hp, hRe]) (if_pos hp) (if_pos hp) k
  have hc1 : Cx (gsetS G (gad G) (lK rm) (Rbr rm N) (gcl G) (gsl G)) cc RX2 rt fr lo := cx_set hc (by rw [hcl0]; exact Nat.zero_le _) (by rw [hsl0]; exact Nat.zero_le _) hc.2.2.2.2.2.2.2.2.2.2
  have o1 : ∀ v, oknv 69 v = true → oknv N v = true := by
    intro v hv
    cases v with
    | ref p =>
      have : p < 69 ∨ 1000000 ≤ p := by simpa [oknv] using hv
      have h2 : p < N ∨ 1000000 ≤ p := this.elim (fun h => Or.inl (Nat.lt_of_lt_of_le h hlo.1)) Or.inr
      simpa [oknv] using h2
    | _ => rfl
  refine w_newG (q := q) (n := N) (C := RX4) (T := TX4) (N := 16) (ty := tyX4) (ci := 4) hc1 hlen hd (by decide) rfl rfl inA_X4 tyX4_ok (by decide +kernel) (tb3 (List.mem_of_getElem? (i := 230) rfl) rfl) (tb3 (List.mem_of_getElem? (i := 231) rfl) rfl) (tb1 (List.mem_of_getElem? (i := 15) rfl) rfl) (if_neg (by omega)) (if_neg (by omega)) (by funext j; exact Rbr_ge) (by omega) (fun p j hp => lR_neN hN hp) (by show gcl G + 1 ≤ (gRm G).cells; rw [hcl0, hRm]; exact Nat.le_of_ble_eq_true rfl) (by show gsl G + 16 ≤ (gRm G).slots; rw [hsl0, hRm]; exact Nat.le_of_ble_eq_true rfl) (List.all_eq_true.mpr fun a ha => o1 _ (List.all_eq_true.mp hol a ha)) (List.all_eq_true.mpr fun a ha => o1 _ (List.all_eq_true.mp hos a ha)) e (fun q0 hc2 => ?_)
  refine kk _ hc2 ⟨hQ, ?_, hAe, rfl, rfl, by show gcl G + 1 = 1; rw [hcl0], by show gsl G + 16 = 16; rw [hsl0]⟩ hRm hn0
  intro p hp
  show adn (gad G) N q0 p = ad0 p
  unfold adn
  rw [if_neg (by omega)]
  exact hag p hp
theorem find_hi {N p j m : Nat} (h : p ≠ N) : ((RLr N).take m).find? (fun e => e.1 == (p, j)) = none := by
  rw [List.find?_eq_none]
  intro e he h1
  have h2 := (RLr_mem he).1
  have h3 : e.1 = (p, j) := by simpa using h1
  rw [h3] at h2
  exact h h2
theorem Rp_hi {rm N p j m : Nat} (h : p ≠ N) : Rp (RLr N) (Rbr rm N) m p j = Rbr rm N p j := by
  unfold Rp
  rw [find_hi h]
theorem R0_hi {p j : Nat} (h : 69 ≤ p) : R0 p j = (if p = 69 then (if 4 ≤ j ∧ j ≤ 10 then some (66 + j) else none) else if p = 76 then (if j < 12 then some (77 + j) else none) else none) := by
  unfold R0
  rw [RL0_hi h]
theorem bq {N a b : Nat} : (((N, a) : Nat × Nat) == (N, b)) = (a == b) := by
  rw [Bool.eq_iff_iff]; simp
theorem Rp_N {rm N j : Nat} : Rp (RLr N) (Rbr rm N) 7 N j = if 4 ≤ j ∧ j ≤ 10 then some (N + j - 3) else none := by
  match j with
  | 0 => simp [Rp, RLr, List.find?, bq, Rbr]
  | 1 => simp [Rp, RLr, List.find?, bq, Rbr]
  | 2 => simp [Rp, RLr, List.find?, bq, Rbr]
  | 3 => simp [Rp, RLr, List.find?, bq, Rbr]
  | 4 => simp [Rp, RLr, List.find?, bq]
  | 5 => simp [Rp, RLr, List.find?, bq]; try omega
  | 6 => simp [Rp, RLr, List.find?, bq]; try omega
  | 7 => simp [Rp, RLr, List.find?, bq]; try omega
  | 8 => simp [Rp, RLr, List.find?, bq]; try omega
  | 9 => simp [Rp, RLr, List.find?, bq]; try omega
  | 10 => simp [Rp, RLr, List.find?, bq]; try omega
  | j + 11 =>
    have : ((RLr N).take 7).find? (fun e => e.1 == (N, j + 11)) = none := by
      simp [RLr, List.find?, bq]
    unfold Rp
    rw [this]
    simp [Rbr]
/-- where the new roster's places come from -/
def gmv (N : Nat) (p : Nat) : Nat := if p < 69 then p else p - 69 + N
def amv (ad : Nat → Nat) (N : Nat) : Nat → Nat := fun p => if 69 ≤ p ∧ p < 89 then ad (p - 69 + N) else ad p
theorem w_mkB {a1 : Int32} {r : Nat} (hc : Cx G cc RX2 rt fr lo) (hX : BXX G ad0 rm an me ro (lK rm ++ [(4, 0)]) (Rbr rm N) 1 16) (hRm : gRm G = rmA fr lo) (hn0 : gnL G = nL0) (hN : okN rm N) (hd : decode cc pc = .ok (.invokespecial 109, 3)) (hd2 : decode cc (pc + 3) = .ok (.putfield 52, 3)) (hr0 : r ≠ 0) (hrr : r ≠ rm) (hx0 : ¬ (imax a1 1) < 0) (hxr : (imax a1 1).toNatClampNeg = r) (hr5 : r ≤ 5040) (hfr : 2 ≤ fr) (hlo9 : 42 ≤ lo) (hol : lv.all (fun q => oknv 69 q.2) = true) (e : q = pc + 6)
    (kk : ∀ G : GT γ, Cx G cc RX2 rt fr lo → AXX G ad0 rm r an me ro → gRm G = rmA fr lo → gnL G = nL0 → WW G q lv [] (nwI (imax a1 1) I) (nwL L) X) : WW G pc lv [.int a1, .ref N, .ref N, .ref 6] (cutI N I) (cutL N L) X := by
  subst e
  obtain ⟨hQ, hag, hAe, hKe, hRe, hcl, hsl⟩ := hX
  have hlen := lK_lenN hN
  have hlo := okN_lo hN
  have o1 : ∀ v, oknv 69 v = true → oknv (N + 1) v = true := by
    intro v hv
    cases v with
    | ref p =>
      have : p < 69 ∨ 1000000 ≤ p := by simpa [oknv] using hv
      have h2 : p < N + 1 ∨ 1000000 ≤ p := this.elim (fun h => Or.inl (Nat.lt_of_lt_of_le h (Nat.le_succ_of_le hlo.1))) Or.inr
      simpa [oknv] using h2
    | _ => rfl
  have hcm : gcl G + 19 ≤ (gRm G).cells := by rw [hcl, hRm]; exact Nat.le_of_ble_eq_true rfl
  have hsm : gsl G + (12 + 18 * r) ≤ (gRm G).slots := by rw [hsl, hRm]; show 16 + (12 + 18 * r) ≤ 90748; omega
  have ht1 : (lK rm ++ KR r).take (N + 1) = lK rm ++ [(4, 0)] := by
    rw [List.take_append, hlen, List.take_of_length_le (by omega), show N + 1 - N = 1 by omega]; rfl
  refine w_ctorG (q := pc + 3) (KB := lK rm ++ KR r) (RL := RLr N) (Rb := Rbr rm N) (n := N + 1) (m := 0) (n' := N + 20) (m' := 7) (mc' := 19) (ms' := 12 + 18 * r) (x := (up2 (cutI N I) N 0 (imax a1 1), cutL N L)) (p := N) (np := 1) (args := [.int a1]) (st := [.ref N, .ref 6]) rfl hc (hKe.trans ht1.symm) (hRe.trans rfl) (k_X4 (r := r) hlen hN hx0 hxr hr5 (fun p hp => if_neg (by omega)) (fun p hp => if_neg (by omega))) hd ml_X2_109 cf_X4_init im_X4_init rfl rfl rfl (Nat.le_of_ble_eq_true rfl) ⟨by omega, by omega⟩ hcm hsm (List.all_eq_true.mpr fun a ha => o1 _ (List.all_eq_true.mp hol a ha)) (by show ((decide (N < N + 1) || decide (1000000 ≤ N)) && ((decide (6 < N + 1) || decide (1000000 ≤ 6)) && true)) = true; rw [decide_eq_true (show N < N + 1 by omega), decide_eq_true (show 6 < N + 1 by omega)]; rfl) rfl (fun ad' hag' hin' hc2 => ?_)
  have hlen2 : ((lK rm ++ KR r).take (N + 20)).length = N + 20 := by
    rw [List.length_take, List.length_append, hlen]
    show min (N + 20) (N + 20) = N + 20
    omega
  have hk6 : ((lK rm ++ KR r).take (N + 20))[6]? = some (2, 0) := by
    rw [List.getElem?_take, if_pos (by omega), List.getElem?_append_left (by omega)]
    exact lK_lo rfl
  refine w_putRG (q := pc + 6) (p := 6) (r := N) (C := RX2) (T := TX2) (N := 13) (k := 10) (ty0 := tyX2) (ty := .object "MoveGroups$Roster") hc2 hd2 hk6 rfl (by decide) inA_X2 tyX2_ok nmX2 (by decide) (by decide +kernel) rfl fl_X2_52 rfl rfl (by decide +kernel) (fun _ => rfl) (fun _ => rfl) rfl ?_
  have hKr : lK r = K0 ++ KR r := if_neg hr0
  have hlenr : (lK r).length = 89 := by rw [hKr]; rfl
  refine w_renum (ad' := amv ad' N) (K' := lK r) (R' := lR r) (I' := nwI (imax a1 1) I) (L' := nwL L) (gmv N) (fun p hp => ?_) (fun a b ha hb h => ?_) (fun p hp => ?_) (fun p hp => ?_) (fun p k hk => ?_) ?_ ?_ ?_
  · rw [hlenr] at hp
    show gmv N p < ((lK rm ++ KR r).take (N + 20)).length
    rw [hlen2]
    unfold gmv
    split <;> omega
  · rw [hlenr] at ha hb
    unfold gmv at h
    split at h <;> split at h <;> omega
  · rw [hlenr] at hp
    show ((lK rm ++ KR r).take (N + 20))[gmv N p]? = _
    unfold gmv
    by_cases h : p < 69
    · rw [if_pos h, List.getElem?_take, if_pos (by omega), List.getElem?_append_left (by omega), hKr, List.getElem?_append_left (by show p < 69; exact h)]
      have h3 : K0[p]? = some K0[p] := List.getElem?_eq_getElem (by show p < 69; exact h)
      rw [h3]
      exact lK_lo h3
    · rw [if_neg h, List.getElem?_take, if_pos (by omega), List.getElem?_append_right (by omega), hKr, List.getElem?_append_right (by show 69 ≤ p; omega), hlen]
      show (KR r)[p - 69 + N - N]? = (KR r)[p - 69]?
      rw [Nat.add_sub_cancel]
  · rw [hlenr] at hp
    show amv ad' N p = ad' (gmv N p)
    unfold amv gmv
    by_cases h : p < 69
    · rw [if_neg (by omega), if_pos h]
    · rw [if_pos (by omega), if_neg h]
  · have hp : p < 89 := by rw [← hlenr]; exact (List.getElem?_eq_some_iff.mp hk).1
    refine ce_ren (fun j => ?_) ?_ ?_ k
    · show (lR r p j).map (amv ad' N) = (up2 (Rp (RLr N) (Rbr rm N) 7) 6 10 (some N) (gmv N p) j).map ad'
      by_cases h : p < 69
      · have hg : gmv N p = p := if_pos h
        rw [hg]
        by_cases h6 : p = 6 ∧ j = 10
        · obtain ⟨rfl, rfl⟩ := h6
          have e1 : lR r 6 10 = some 69 := by unfold lR; rw [if_pos ⟨rfl, rfl⟩, if_neg hr0]
          have e2 : up2 (Rp (RLr N) (Rbr rm N) 7) 6 10 (some N) 6 10 = some N := by simp [up2]
          rw [e1, e2]
          simp [amv]
        · have e2 : up2 (Rp (RLr N) (Rbr rm N) 7) 6 10 (some N) p j = Rp (RLr N) (Rbr rm N) 7 p j := by
            unfold up2
            split
            · rw [if_neg (fun h => h6 ⟨by assumption, h⟩)]
            · rfl
          rw [e2, Rp_hi (by omega), Rbr_lt (by omega), lR_ne h6, lR_ne h6]
          cases hr : R0 p j with
          | none => rfl
          | some t =>
            have := (R0_lt hr).2 h
            show some (amv ad' N t) = some (ad' t)
            unfold amv
            rw [if_neg (by omega)]
      · have hg : gmv N p = p - 69 + N := if_neg h
        rw [hg, lR_ne (by omega), R0_hi (by omega)]
        have e2 : up2 (Rp (RLr N) (Rbr rm N) 7) 6 10 (some N) (p - 69 + N) j = Rp (RLr N) (Rbr rm N) 7 (p - 69 + N) j := by
          unfold up2
          rw [if_neg (by omega)]
        rw [e2]
        by_cases h69 : p = 69
        · subst h69
          rw [show 69 - 69 + N = N by omega, Rp_N]
          rw [if_pos rfl]
          split
          · show some (amv ad' N (66 + j)) = some (ad' (N + j - 3))
            unfold amv
            rw [if_pos (by omega), show 66 + j - 69 + N = N + j - 3 by omega]
          · rfl
        · rw [if_neg h69, Rp_hi (by omega)]
          unfold Rbr
          rw [if_neg (show ¬ p - 69 + N < N by omega)]
          by_cases h76 : p = 76
          · subst h76
            rw [if_pos rfl, if_pos (show 76 - 69 + N = N + 7 by omega)]
            split
            · show some (amv ad' N (77 + j)) = some (ad' (N + 8 + j))
              unfold amv
              rw [if_pos (by omega), show 77 + j - 69 + N = N + 8 + j by omega]
            · rfl
          · rw [if_neg h76, if_neg (by omega)]
            rfl
    · funext j
      show nwI (imax a1 1) I p j = up2 (cutI N I) N 0 (imax a1 1) (gmv N p) j
      unfold nwI up2 cutI gmv
      by_cases h : p < 69
      · rw [if_neg (by omega), if_pos h, if_neg (by omega), if_pos (by omega)]
      · rw [if_pos (by omega), if_neg h]
        by_cases h69 : p = 69
        · subst h69
          rw [if_pos (show 69 - 69 + N = N by omega)]
          by_cases hj : j = 0
          · rw [if_pos ⟨rfl, hj⟩, if_pos hj]
          · rw [if_neg (fun h => hj h.2), if_neg hj, if_neg (by omega)]
        · rw [if_neg (fun h => h69 h.1), if_neg (show ¬ p - 69 + N = N by omega), if_neg (by omega)]
    · funext j
      show nwL L p j = cutL N L (gmv N p) j
      unfold nwL cutL gmv
      by_cases h : p < 69
      · rw [if_neg (by omega), if_pos h, if_pos (by omega)]
      · rw [if_pos (by omega), if_neg h, if_neg (by omega)]
  · show trl (amv ad' N) lv = trl ad' lv
    apply List.map_congr_left
    intro a ha
    have h1 := List.all_eq_true.mp hol a ha
    cases hv : a.2 with
    | ref p =>
      rw [hv] at h1
      have : p < 69 ∨ 1000000 ≤ p := by simpa [oknv] using h1
      show (a.1, Value.ref (amv ad' N p)) = (a.1, Value.ref (ad' p))
      unfold amv
      rw [if_neg (fun h => this.elim (fun g => absurd g (Nat.not_lt.mpr h.1)) (fun g => absurd (Nat.lt_of_lt_of_le h.2 (by decide : 89 ≤ 1000000)) (Nat.not_lt.mpr g)))]
    | _ => rfl
  · rfl
  have hag2 : agr ad0 (amv ad' N) := by
    intro p hp
    show amv ad' N p = ad0 p
    unfold amv
    rw [if_neg (by omega), hag' p (by omega)]
    exact hag p hp
  have h9 : agr (gad G) (amv ad' N) := by
    intro p hp
    rw [hag2 p hp, hag p hp]
  refine kk _ (cx_set (cx_set hc2 (by show gcl G + 19 ≤ _; exact hcm) (by show gsl G + (12 + 18 * r) ≤ _; exact hsm) hc2.2.2.2.2.2.2.2.2.2.2) (by show gcl G + 19 ≤ _; exact hcm) (by show gsl G + (12 + 18 * r) ≤ _; exact hsm) (hc.2.2.2.2.2.2.2.2.2.2.agr h9)) ⟨hQ, hag2, hAe, rfl, rfl, ?_, ?_⟩ hRm hn0
  · show gcl G + 19 = mcA rm r
    rw [hcl]
    unfold mcA
    rw [if_neg hrr]
  · show gsl G + (12 + 18 * r) = msA rm r
    rw [hsl]
    unfold msA
    rw [if_neg hrr]
    omega
end AM

set_option maxRecDepth 100000 in
set_option maxHeartbeats 4000000 in
theorem m_X2_all {l : Launch} {rm : Nat} {I : MI} {L : ML} : MFa l yX2_all cX2_all 2 (some (.object "MoveGroups$Roster")) 3 86 [.ref 6] rm I L anRA meB roA (f_X2_all rm I L) := by
  refine mfa_of (plainFor_of_name (by decide)) (Nat.le_of_ble_eq_true rfl) ?_
  intro G ad0 hc hX hRm hn
  have hK := hX.2.2.2.1
  have hR := hX.2.2.2.2.1
  have hN : ∀ i, Nat.blt i 2 = true → i < gnL G := fun i h => hn ▸ Nat.blt_eq.mp h
  -- the tail: what follows once the roster is there
  have tail : ∀ (r : Nat) (I : MI) (L : ML) (size : Int32) (G : GT (Mm × Nat)), r ≠ 0 → Cx G cX2_all RX2 (some (.object "MoveGroups$Roster")) 3 86 → AXX G ad0 rm r anRA meB roA → gRm G = rmA 3 86 → gnL G = 2 → WW G 74 [(1, .int size), (0, .ref 6)] [] I L (f_X2_all_T r I L) := by
    intro r I L size G hrm hc hX hRm hn
    have hK := hX.2.2.2.1
    have hR := hX.2.2.2.2.1
    unfold f_X2_all_T
    refine w_aload_n (q := 75) (i := 0) (j := 1) hc dX2_all_74 rfl rfl rfl ?_
    refine gf_X2_56 (q := 78) hc dX2_all_75 (k_6 hK) rfl ?_
    refine w_ifne (q := 81) (tgt := 101) hc dX2_all_78 rfl rfl ?_ ?_
    · refine w_aload_n (q := 82) (i := 0) (j := 1) hc dX2_all_81 rfl rfl rfl ?_
      refine gf_X2_52 (q := 85) hc dX2_all_82 (k_6 hK) (r_ro hR hrm) rfl ?_
      refine w_aload_n (q := 86) (i := 0) (j := 1) hc dX2_all_85 rfl rfl rfl ?_
      refine gf_X2_25 (q := 89) hc dX2_all_86 (k_6 hK) (r_6_3 hR) rfl ?_
      refine w_aload_n (q := 90) (i := 0) (j := 1) hc dX2_all_89 rfl rfl rfl ?_
      refine gf_X2_9 (q := 93) hc dX2_all_90 (k_6 hK) rfl ?_
      refine w_callV_Wv (q := 96) (st := []) (args := [.ref 8, .int (I 6 0)]) (p := 69) hc (m_X4_fill hK hR hrm (Or.inl rfl)) dX2_all_93 ml_X2_115 cf_X4_fill iv_X4_fill (k_69 hK hrm) (C := RX4) (T := TX4) (N := 16) rfl rfl (Nat.lt_of_succ_le (Nat.le_of_ble_eq_true rfl)) rfl rfl (Nat.le_of_ble_eq_true rfl) ⟨Nat.le_of_ble_eq_true rfl, Nat.le_of_ble_eq_true rfl⟩ rfl (fun q_3 => ?_)
      refine w_aload_n (q := 97) (i := 0) (j := 1) hc dX2_all_96 rfl rfl rfl ?_
      refine w_iconst (q := 98) hc dX2_all_97 ci_1 rfl ?_
      refine pf_X2_56 (q := 101) hc dX2_all_98 (k_6 hK) (by decide +kernel) rfl (fun I => ?_)
      refine w_aload_n (q := 102) (i := 0) (j := 1) hc dX2_all_101 rfl rfl rfl ?_
      refine gf_X2_52 (q := 105) hc dX2_all_102 (k_6 hK) (r_ro hR hrm) rfl ?_
      exact w_areturnA hc hX dX2_all_105 rfl rfl rfl
    · refine w_aload_n (q := 102) (i := 0) (j := 1) hc dX2_all_101 rfl rfl rfl ?_
      refine gf_X2_52 (q := 105) hc dX2_all_102 (k_6 hK) (r_ro hR hrm) rfl ?_
      exact w_areturnA hc hX dX2_all_105 rfl rfl rfl
  have room : ∀ (x : Int32), rOK x rm = true → ¬ x < 0 ∧ ix x ≠ 0 ∧ ix x ≠ rm ∧ ix x ≤ 5040 := by
    intro x h
    simp only [rOK, Bool.and_eq_true, decide_eq_true_eq] at h
    obtain ⟨h1, h2, h3⟩ := h
    have h4 : (ix x : Int) = x.toInt := by
      show ((x.toInt.toNat : Nat) : Int) = x.toInt
      omega
    refine ⟨fun h => ?_, by omega, h3, by omega⟩
    have h5 := Int32.lt_iff_toInt_lt.mp h
    have h6 : (0 : Int32).toInt = 0 := by decide
    omega
  unfold f_X2_all
  show WW G 0 [(0, .ref 6)] [] I L _
  refine w_aload_n (q := 1) (i := 0) (j := 0) hc dX2_all_0 rfl rfl rfl ?_
  refine gf_X2_25 (q := 4) hc dX2_all_1 (k_6 hK) (r_6_3 hR) rfl ?_
  refine w_callV_Ri (q := 7) (st := []) (args := []) (p := 8) hc (m_X0_size hK hR (Or.inl rfl)) dX2_all_4 ml_X2_92 cf_X0_size iv_X0_size (k_8 hK) (C := RX0) (T := TX0) (N := 8) rfl rfl (Nat.lt_of_succ_le (Nat.le_of_ble_eq_true rfl)) rfl rfl (Nat.le_of_ble_eq_true rfl) ⟨Nat.le_of_ble_eq_true rfl, Nat.le_of_ble_eq_true rfl⟩ rfl (fun q_3 => ?_)
  refine w_sipush (q := 10) (v := 5040) hc dX2_all_7 (by decide +kernel) rfl ?_
  refine w_min (q := 13) (st := []) hc dX2_all_10 ml_X2_63 (Nat.le_of_ble_eq_true rfl) (Nat.le_of_ble_eq_true rfl) (Nat.le_of_ble_eq_true rfl) rfl ?_
  refine w_istore_nB (q := 14) (i := 1) (lv' := fun x => [(1, .int x), (0, .ref 6)]) hc dX2_all_13 rfl (hN 1 rfl) (fun _ => rfl) rfl (fun size => ?_)
  refine w_aload_n (q := 15) (i := 0) (j := 1) hc dX2_all_14 rfl rfl rfl ?_
  by_cases hrm : rm = 0
  · rw [if_pos hrm]
    refine w_getR0 (q := 18) hc dX2_all_15 (k_6 hK) (r_ro0 hR hrm) (C := RX2) (T := TX2) (N := 13) (k := 10) rfl (by decide) inA_X2 (by decide) (by decide +kernel) rfl fl_X2_52 rfl rfl ?_
    refine w_ifnonnullN (q := 21) hc dX2_all_18 rfl ?_
    refine w_aload_n (q := 22) (i := 0) (j := 1) hc dX2_all_21 rfl rfl rfl ?_
    show WW G 22 _ _ _ _ (chk (rOK (imax size 1) rm) _)
    refine w_chk (fun hok => ?_)
    obtain ⟨x0, r0, rr, r5⟩ := room _ hok
    have hoN : okN rm 69 := Or.inl ⟨rfl, hrm⟩
    refine w_mkA (q := 25) (N := 69) hc hX hRm hn hoN dX2_all_22 rfl rfl rfl (fun G hc hX hRm hn => ?_)
    refine w_dup_ref (q := 26) hc dX2_all_25 rfl ?_
    refine w_iload_n (q := 27) (i := 1) (j := 0) hc dX2_all_26 rfl rfl rfl ?_
    refine w_mkB (q := 33) (r := ix (imax size 1)) hc hX hRm hn hoN dX2_all_27 dX2_all_30 r0 rr x0 rfl r5 (Nat.le_of_ble_eq_true rfl) (Nat.le_of_ble_eq_true rfl) rfl rfl (fun G hc hX hRm hn => ?_)
    have hK := hX.2.2.2.1
    have hR := hX.2.2.2.2.1
    show WW G 33 _ _ (nwI (imax size 1) I) (nwL L) (if size ≤ nwI (imax size 1) I 69 0 then f_X2_all_T (ix (imax size 1)) (nwI (imax size 1) I) (nwL L) else none)
    refine w_aload_n (q := 34) (i := 0) (j := 1) hc dX2_all_33 rfl rfl rfl ?_
    refine gf_X2_52 (q := 37) hc dX2_all_34 (k_6 hK) (r_ro hR r0) rfl ?_
    refine gf_X2_112 (q := 40) hc dX2_all_37 (k_69 hK r0) rfl ?_
    refine w_iload_n (q := 41) (i := 1) (j := 0) hc dX2_all_40 rfl rfl rfl ?_
    refine w_icmpge (q := 44) (tgt := 74) hc dX2_all_41 rfl rfl ?_ ?_
    · exact tail _ _ _ _ G r0 hc hX hRm hn
    · intro b hb; cases hb
  · rw [if_neg hrm]
    refine gf_X2_52 (q := 18) hc dX2_all_15 (k_6 hK) (r_ro hR hrm) rfl ?_
    refine w_ifnonnullR (tgt := 33) hc dX2_all_18 rfl ?_
    refine w_aload_n (q := 34) (i := 0) (j := 1) hc dX2_all_33 rfl rfl rfl ?_
    refine gf_X2_52 (q := 37) hc dX2_all_34 (k_6 hK) (r_ro hR hrm) rfl ?_
    refine gf_X2_112 (q := 40) hc dX2_all_37 (k_69 hK hrm) rfl ?_
    refine w_iload_n (q := 41) (i := 1) (j := 0) hc dX2_all_40 rfl rfl rfl ?_
    refine w_icmpge (q := 44) (tgt := 74) hc dX2_all_41 rfl rfl ?_ ?_
    · exact tail _ _ _ _ G hrm hc hX hRm hn
    · refine w_aload_n (q := 45) (i := 0) (j := 1) hc dX2_all_44 rfl rfl rfl ?_
      show WW G 45 _ _ _ _ (chk (rOK (imax (imin (imax size (2 * (I 69 0))) 5040) 1) rm) _)
      refine w_chk (fun hok => ?_)
      obtain ⟨x0, r0, rr, r5⟩ := room _ hok
      have hoN : okN rm 89 := Or.inr ⟨rfl, hrm⟩
      refine w_mkA (q := 48) (N := 89) hc hX hRm hn hoN dX2_all_45 rfl rfl rfl (fun G hc hX hRm hn => ?_)
      have hK1 : (gK G)[6]? = some (2, 0) := by
        rw [hX.2.2.2.1, List.getElem?_append_left (by rw [lK_lenN hoN]; decide)]
        exact lK_lo rfl
      have hK2 : (gK G)[69]? = some (4, 0) := by
        rw [hX.2.2.2.1, List.getElem?_append_left (by rw [lK_lenN hoN]; decide)]
        exact lK_hi (p := 0) hrm rfl
      have hR1 : gR G 6 10 = some 69 := by
        rw [hX.2.2.2.2.1, Rbr_lt (by decide)]
        unfold lR
        rw [if_pos ⟨rfl, rfl⟩, if_neg hrm]
      refine w_dup_ref (q := 49) hc dX2_all_48 rfl ?_
      refine w_iload_n (q := 50) (i := 1) (j := 0) hc dX2_all_49 rfl rfl rfl ?_
      refine w_iconst (q := 51) hc dX2_all_50 ci_2 rfl ?_
      refine w_aload_n (q := 52) (i := 0) (j := 1) hc dX2_all_51 rfl rfl rfl ?_
      refine gf_X2_52 (q := 55) hc dX2_all_52 hK1 hR1 rfl ?_
      refine gf_X2_112 (q := 58) hc dX2_all_55 hK2 rfl ?_
      refine w_imul (q := 59) hc dX2_all_58 rfl ?_
      refine w_max (q := 62) (st := [.ref 89, .ref 89, .ref 6]) hc dX2_all_59 ml_X2_72 (Nat.le_of_ble_eq_true rfl) (Nat.le_of_ble_eq_true rfl) (Nat.le_of_ble_eq_true rfl) rfl ?_
      refine w_sipush (q := 65) (v := 5040) hc dX2_all_62 (by decide +kernel) rfl ?_
      refine w_min (q := 68) (st := [.ref 89, .ref 89, .ref 6]) hc dX2_all_65 ml_X2_63 (Nat.le_of_ble_eq_true rfl) (Nat.le_of_ble_eq_true rfl) (Nat.le_of_ble_eq_true rfl) rfl ?_
      rw [show cutI 89 I 69 0 = I 69 0 from rfl]
      refine w_mkB (q := 74) (r := ix (imax (imin (imax size (2 * (I 69 0))) 5040) 1)) hc hX hRm hn hoN dX2_all_68 dX2_all_71 r0 rr x0 rfl r5 (Nat.le_of_ble_eq_true rfl) (Nat.le_of_ble_eq_true rfl) rfl rfl (fun G hc hX hRm hn => ?_)
      exact tail _ _ _ _ G r0 hc hX hRm hn
