/-! The reference: the group of commutators, in a slot -/
section LC
variable {I J J0 : MI} {L : ML} {T1 Ta T : Nat → Nat → Nat → Nat} {K0 B : PS} {a : Nat}
abbrev CS : List Nat := [46, 47, 48, 49, 50, 52, 53, 54, 55, 56, 57, 58, 59]
/-- a slot's ones that move -/
def Own (I : MI) (s : Nat) (T : Nat → Nat → Nat → Nat) : PS := fun q => ∃ c, c < 100 ∧ RT I s (c / 10) (c % 10) = true ∧ c / 10 ≠ c % 10 ∧ q = T (c / 10) (c % 10)
theorem Own_G {s : Nat} {H : PS} (hS : SlotOK I s T) (hT : TabG 10 H (RB (RT I s)) T) (hH : Sub 10 H) : Gen 10 (Own I s T) = H := by
  have hP : ∀ q, Own I s T q → H q := fun q ⟨c, c1, c2, c3, e⟩ => by rw [e]; exact hT.2.2 (c / 10) (c % 10) (by omega) c2
  have hsub := Gen_Sub (Nat.le_refl 10) (fun q hq => hH.1 q (hP q hq))
  funext p
  refine propext ⟨fun h => Gen_le hH hP p h, fun h => SM_in hS hsub (fun q ⟨k, j, hk, hj, hr, e⟩ => ?_) (hH.1 p h) ((SlotG.mem hS hT hH p).mpr h)⟩
  by_cases c : k = j
  · rw [e, ← c, (hS.1 k hk).1.2]; exact hsub.2.1
  · have e1 : (10 * k + j) / 10 = k := by omega
    have e2 : (10 * k + j) % 10 = j := by omega
    exact Gen_in ⟨10 * k + j, by omega, by rw [e1, e2]; exact hr, by rw [e1, e2]; exact c, by rw [e1, e2]; exact e⟩
theorem isOwn_eq {c : Nat} (h : c < 100) : f_X8_isOwn (nI c) = some (decide (c / 10 ≠ c % 10)) := by
  unfold f_X8_isOwn
  rw [q_ne10, q_ne10, q_div10 (by omega), q_rem10 (by omega), ifc (q_eq (by omega) (by omega))]
  by_cases e : c / 10 = c % 10
  · rw [if_pos e, decide_eq_false (fun g => g e)]
  · rw [if_neg e, decide_eq_true e]
theorem cellz {s d : Nat} (h : d < 100) : (J 52 (100 * s + d) = 0) ↔ RT J s (d / 10) (d % 10) = false := by
  rw [RT_cell h]
  by_cases e : J 52 (100 * s + d) = 0
  · simp [e]
  · simp [e]
theorem lc44 {c : Nat} (ha : a < 4) (ha2 : a ≠ 2) (hc : c < 100) (h1 : SlotOK I 1 T1) (hr1 : RT I 1 (c / 10) (c % 10) = true) (hA : SlotOK I a Ta) (hB : Sub 10 B) (hcm : ∀ d, d < 100 → RT I a (d / 10) (d % 10) = true → B (cm (T1 (c / 10) (c % 10)) (Ta (d / 10) (d % 10)))) (hf : FrS 2 I J) (hF : Fr CS I J) (hJ : SlotG J 2 K0) (hK : ∀ p, K0 p → B p) (k0 : MI → ML → Option Mm) : ∃ J' K, f_X8_laysCommutators_44 (nI 1) (nI a) (nI 2) (nI c) k0 FU 0 J L = k0 J' L ∧ FrS 2 I J' ∧ Fr CS I J' ∧ SlotG J' 2 K ∧ (∀ p, K0 p → K p) ∧ (∀ p, K p → B p) ∧ ∀ d, d < 100 → RT I a (d / 10) (d % 10) = true → d / 10 ≠ d % 10 → K (cm (T1 (c / 10) (c % 10)) (Ta (d / 10) (d % 10))) := by
  have P1 : IsP 10 (T1 (c / 10) (c % 10)) := ((h1.1 (c / 10) (by omega)).2 _ hr1).2.1
  have := loop0 (fun fu (z : Int32 × MI × ML) => f_X8_laysCommutators_44 (nI 1) (nI a) (nI 2) (nI c) k0 fu z.1 z.2.1 z.2.2) (fun i z => i ≤ 100 ∧ z.1 = nI i ∧ z.2.2 = L ∧ FrS 2 I z.2.1 ∧ Fr CS I z.2.1 ∧ ∃ K, SlotG z.2.1 2 K ∧ (∀ p, K0 p → K p) ∧ (∀ p, K p → B p) ∧ ∀ d, d < i → RT I a (d / 10) (d % 10) = true → d / 10 ≠ d % 10 → K (cm (T1 (c / 10) (c % 10)) (Ta (d / 10) (d % 10)))) (fun o => ∃ J' K, o = k0 J' L ∧ FrS 2 I J' ∧ Fr CS I J' ∧ SlotG J' 2 K ∧ (∀ p, K0 p → K p) ∧ (∀ p, K p → B p) ∧ ∀ d, d < 100 → RT I a (d / 10) (d % 10) = true → d / 10 ≠ d % 10 → K (cm (T1 (c / 10) (c % 10)) (Ta (d / 10) (d % 10)))) 100 (by omega) (nI 0, J, L) ⟨Nat.zero_le _, rfl, rfl, hf, hF, K0, hJ, fun _ h => h, hK, fun d hd => by omega⟩
    (fun fu d z hd hP => by
      obtain ⟨z1, J1, M1⟩ := z
      obtain ⟨_, p1, p2, p3, p4, K, p5, p6, p7, p8⟩ := hP
      dsimp only at p1 p2 p3 p4 p5 ⊢
      subst p1 p2
      rw [f_X8_laysCommutators_44]
      by_cases c1 : 100 ≤ d
      · left
        obtain rfl : d = 100 := by omega
        rw [if_pos (by decide)]
        exact ⟨J1, K, rfl, p3, p4, p5, p6, p7, p8⟩
      · right
        have hd1 : d < 100 := by omega
        obtain ⟨A1, A2⟩ := hA.frS p3 ha2
        obtain ⟨B1, B2⟩ := h1.frS p3 (by decide)
        refine ⟨by omega, ?_⟩
        rw [if_neg (ge100 hd1), ad_c, q_chk (by omega) (by decide), q_ix (by omega)]
        by_cases c2 : J1 52 (100 * a + d) = 0
        · refine ⟨(nI (d + 1), J1, M1), ?_, by omega, rfl, rfl, p3, p4, K, p5, p6, p7, fun t ht hr ho => ?_⟩
          · rw [if_pos c2, bnd_eq, nI_1]
          · by_cases e : t = d
            · subst e
              have := (cellz hd1).mp c2
              rw [A2 _ (by omega), hr] at this; cases this
            · exact p8 t (by omega) hr ho
        · have hrd : RT I a (d / 10) (d % 10) = true := by
            cases g : RT I a (d / 10) (d % 10)
            · exact absurd ((cellz hd1).mpr (by rw [A2 _ (by omega)]; exact g)) c2
            · rfl
          rw [if_neg c2, ob (isOwn_eq hd1)]
          by_cases c3 : d / 10 ≠ d % 10
          · have P2 : IsP 10 (Ta (d / 10) (d % 10)) := ((hA.1 (d / 10) (by omega)).2 _ hrd).2.1
            have R1 : Row J1 53 (1000 * 1 + 100 * (c / 10) + 10 * (c % 10)) (T1 (c / 10) (c % 10)) := B1.2 _ _ (by omega) (by omega) (by rw [B2 _ (by omega)]; exact hr1)
            have R2 : Row (wp J1 46 0 (T1 (c / 10) (c % 10))) 53 (1000 * a + 100 * (d / 10) + 10 * (d % 10)) (Ta (d / 10) (d % 10)) := Row_of (wp_ne (by decide)) (A1.2 _ _ (by omega) (by omega) (by rw [A2 _ (by omega)]; exact hrd))
            have x3 := commutes_eq (I := wp (wp J1 46 0 (T1 (c / 10) (c % 10))) 47 0 (Ta (d / 10) (d % 10))) (L := M1) (a := 46) (b := 47) (c := 48) P1 P2 (Row_ne (by decide) Row_wp) Row_wp (by decide) (by decide) (by decide) (by decide) (by decide) (by decide) (by decide) (by decide)
            generalize hJ3 : wp (wp (wp (wp (wp J1 46 0 (T1 (c / 10) (c % 10))) 47 0 (Ta (d / 10) (d % 10))) 49 0 (iv (T1 (c / 10) (c % 10)))) 50 0 (iv (Ta (d / 10) (d % 10)))) 48 0 (cm (T1 (c / 10) (c % 10)) (Ta (d / 10) (d % 10))) = J3 at x3
            have F3 : Fr [46, 47, 48, 49, 50] J1 J3 := by rw [← hJ3]; exact ((((Fr_wp (by decide)).trans (Fr_wp (by decide))).trans (Fr_wp (by decide))).trans (Fr_wp (by decide))).trans (Fr_wp (by decide))
            have r48 : Row J3 48 0 (cm (T1 (c / 10) (c % 10)) (Ta (d / 10) (d % 10))) := by rw [← hJ3]; exact Row_wp
            obtain ⟨J4, y1, y2, y3, y4⟩ := adds_eq (L := M1) (s := 2) (by decide) (p5.fr (F3 52 (by decide)) (F3 53 (by decide))) (a := 48) (by decide) r48 (IsP_cm (Nat.le_refl 10) P1 P2)
            obtain ⟨e1, e2, e3⟩ := Gen_add hB p7 (hcm d hd1 hrd)
            refine ⟨(nI (d + 1), J4, M1), ?_, by omega, rfl, rfl, p3.trans ((FrS.of (F3 52 (by decide)) (F3 53 (by decide))).trans y4), (p4.trans (F3.mono (by decide))).trans (y3.mono (by decide)), _, y2, fun p hp => e1 p (p6 p hp), e2, fun t ht hr ho => ?_⟩
            · rw [decide_eq_true c3, if_neg b2i_t, q_ne10, q_ne10, q_div10 (by omega), q_rem10 (by omega), ob (laysCell_eq (s := 1) (by decide) (by omega) (by omega) (by decide) R1), q_ne10, q_ne10, q_div10 (by omega), q_rem10 (by omega), ob (laysCell_eq ha (by omega) (by omega) (by decide) R2), ob x3, ob y1, bnd_eq, nI_1]
            · by_cases e : t = d
              · subst e; exact e3
              · exact e1 _ (p8 t (by omega) hr ho)
          · refine ⟨(nI (d + 1), J1, M1), ?_, by omega, rfl, rfl, p3, p4, K, p5, p6, p7, fun t ht hr ho => ?_⟩
            · rw [decide_eq_false c3, if_pos b2i_f, bnd_eq, nI_1]
            · by_cases e : t = d
              · subst e; exact absurd ho c3
              · exact p8 t (by omega) hr ho)
  rw [nI_0] at this
  exact this
theorem lc8 (ha : a < 4) (ha2 : a ≠ 2) (h1 : SlotOK I 1 T1) (hA : SlotOK I a Ta) (hB : Sub 10 B) (hcm : ∀ c d, c < 100 → d < 100 → RT I 1 (c / 10) (c % 10) = true → RT I a (d / 10) (d % 10) = true → B (cm (T1 (c / 10) (c % 10)) (Ta (d / 10) (d % 10)))) (hf : FrS 2 I J) (hF : Fr CS I J) (hJ : SlotG J 2 K0) (hK : ∀ p, K0 p → B p) (k0 : MI → ML → Option Mm) : ∃ J' K, f_X8_laysCommutators_8 (nI 1) (nI a) (nI 2) k0 FU 0 J L = k0 J' L ∧ FrS 2 I J' ∧ Fr CS I J' ∧ SlotG J' 2 K ∧ (∀ p, K p → B p) ∧ ∀ s t, Own I 1 T1 s → Own I a Ta t → K (cm s t) := by
  have := loop0 (fun fu (z : Int32 × MI × ML) => f_X8_laysCommutators_8 (nI 1) (nI a) (nI 2) k0 fu z.1 z.2.1 z.2.2) (fun i z => i ≤ 100 ∧ z.1 = nI i ∧ z.2.2 = L ∧ FrS 2 I z.2.1 ∧ Fr CS I z.2.1 ∧ ∃ K, SlotG z.2.1 2 K ∧ (∀ p, K p → B p) ∧ ∀ c, c < i → RT I 1 (c / 10) (c % 10) = true → c / 10 ≠ c % 10 → ∀ t, Own I a Ta t → K (cm (T1 (c / 10) (c % 10)) t)) (fun o => ∃ J' K, o = k0 J' L ∧ FrS 2 I J' ∧ Fr CS I J' ∧ SlotG J' 2 K ∧ (∀ p, K p → B p) ∧ ∀ s t, Own I 1 T1 s → Own I a Ta t → K (cm s t)) 100 (by omega) (nI 0, J, L) ⟨Nat.zero_le _, rfl, rfl, hf, hF, K0, hJ, hK, fun d hd => by omega⟩
    (fun fu d z hd hP => by
      obtain ⟨z1, J1, M1⟩ := z
      obtain ⟨_, p1, p2, p3, p4, K, p5, p7, p8⟩ := hP
      dsimp only at p1 p2 p3 p4 p5 ⊢
      subst p1 p2
      rw [f_X8_laysCommutators_8]
      by_cases c1 : 100 ≤ d
      · left
        obtain rfl : d = 100 := by omega
        rw [if_pos (by decide)]
        exact ⟨J1, K, rfl, p3, p4, p5, p7, fun s t ⟨c, x1, x2, x3, x4⟩ ht => by rw [x4]; exact p8 c x1 x2 x3 t ht⟩
      · right
        have hd1 : d < 100 := by omega
        obtain ⟨B1, B2⟩ := h1.frS p3 (by decide)
        refine ⟨by omega, ?_⟩
        rw [if_neg (ge100 hd1), ad_c, q_chk (by omega) (by decide), q_ix (by omega)]
        by_cases c2 : J1 52 (100 * 1 + d) = 0
        · refine ⟨(nI (d + 1), J1, M1), ?_, by omega, rfl, rfl, p3, p4, K, p5, p7, fun t ht hr ho => ?_⟩
          · rw [if_pos c2, bnd_eq, nI_1]
          · by_cases e : t = d
            · subst e
              have := (cellz hd1).mp c2
              rw [B2 _ (by omega), hr] at this; cases this
            · exact p8 t (by omega) hr ho
        · have hrd : RT I 1 (d / 10) (d % 10) = true := by
            cases g : RT I 1 (d / 10) (d % 10)
            · exact absurd ((cellz hd1).mpr (by rw [B2 _ (by omega)]; exact g)) c2
            · rfl
          rw [if_neg c2, ob (isOwn_eq hd1)]
          by_cases c3 : d / 10 ≠ d % 10
          · obtain ⟨J2, K2, g1, g2, g3, g4, g5, g6, g7⟩ := lc44 (L := M1) ha ha2 hd1 h1 hrd hA hB (fun t ht hr => hcm d t hd1 ht hrd hr) p3 p4 p5 p7 (fun (I_25 : MI) (L_26 : ML) => bnd (nI d + 1 : Int32) (fun v4_27 => f_X8_laysCommutators_8 (nI 1) (nI a) (nI 2) k0 fu v4_27 I_25 L_26))
            refine ⟨(nI (d + 1), J2, M1), ?_, by omega, rfl, rfl, g2, g3, K2, g4, g6, fun c hc hr ho t ht => ?_⟩
            · rw [decide_eq_true c3, if_neg b2i_t, g1, bnd_eq, nI_1]
            · by_cases e : c = d
              · subst e
                obtain ⟨x, x1, x2, x3, x4⟩ := ht
                rw [x4]; exact g7 x x1 x2 x3
              · exact g5 _ (p8 c (by omega) hr ho t ht)
          · refine ⟨(nI (d + 1), J1, M1), ?_, by omega, rfl, rfl, p3, p4, K, p5, p7, fun t ht hr ho => ?_⟩
            · rw [decide_eq_false c3, if_pos b2i_f, bnd_eq, nI_1]
            · by_cases e : t = d
              · subst e; exact absurd ho c3
              · exact p8 t (by omega) hr ho)
  rw [nI_0] at this
  exact this
/-- in a pass: nothing has come to the slot, or something has -/
def PW (I J0 : MI) (T : Nat → Nat → Nat → Nat) (K0 B : PS) (f : Bool) (J : MI) : Prop := FrS 2 I J ∧ Fr CS I J ∧ ∃ K T', SlotOK J 2 T' ∧ TabG 10 K (RB (RT J 2)) T' ∧ Sub 10 K ∧ Bo J 2 ∧ (∀ p, K0 p → K p) ∧ (∀ p, K p → B p) ∧ (f = false → J 52 = J0 52 ∧ J 53 = J0 53 ∧ K = K0 ∧ T' = T) ∧ (f = true → ∃ p, K p ∧ ¬ K0 p)
theorem lc202 {c : Nat} {f0 : Bool} (ha : a < 4) (ha2 : a ≠ 2) (hc : c < 100) (hA : SlotOK I a Ta) (hB : Sub 10 B) (hcj : ∀ x d, B x → d < 100 → RT I a (d / 10) (d % 10) = true → B (cj x (Ta (d / 10) (d % 10)))) (hP : PW I J0 T K0 B f0 J) (hr1 : RT J 2 (c / 10) (c % 10) = true) (k0 : Int32 → MI → ML → Option Mm) : ∃ f J', f_X8_laysCommutators_202 (nI a) (nI 2) (nI c) k0 FU (b2i f0) 0 J L = k0 (b2i f) J' L ∧ PW I J0 T K0 B f J' ∧ (f0 = true → f = true) ∧ (f = false → ∀ d, d < 100 → RT I a (d / 10) (d % 10) = true → d / 10 ≠ d % 10 → K0 (cj (T (c / 10) (c % 10)) (Ta (d / 10) (d % 10)))) := by
  have := loop0 (fun fu (z : Int32 × Int32 × MI × ML) => f_X8_laysCommutators_202 (nI a) (nI 2) (nI c) k0 fu z.1 z.2.1 z.2.2.1 z.2.2.2) (fun i z => i ≤ 100 ∧ z.2.1 = nI i ∧ z.2.2.2 = L ∧ RT z.2.2.1 2 (c / 10) (c % 10) = true ∧ ∃ f, z.1 = b2i f ∧ PW I J0 T K0 B f z.2.2.1 ∧ (f0 = true → f = true) ∧ (f = false → ∀ d, d < i → RT I a (d / 10) (d % 10) = true → d / 10 ≠ d % 10 → K0 (cj (T (c / 10) (c % 10)) (Ta (d / 10) (d % 10))))) (fun o => ∃ f J', o = k0 (b2i f) J' L ∧ PW I J0 T K0 B f J' ∧ (f0 = true → f = true) ∧ (f = false → ∀ d, d < 100 → RT I a (d / 10) (d % 10) = true → d / 10 ≠ d % 10 → K0 (cj (T (c / 10) (c % 10)) (Ta (d / 10) (d % 10))))) 100 (by omega) (b2i f0, nI 0, J, L) ⟨Nat.zero_le _, rfl, rfl, hr1, f0, rfl, hP, id, fun _ d hd => by omega⟩
    (fun fu d z hd hP => by
      obtain ⟨z0, z1, J1, M1⟩ := z
      obtain ⟨_, p1, p2, p3, f, p4, p5, p6, p7⟩ := hP
      dsimp only at p1 p2 p3 p4 p5 ⊢
      subst p1 p2 p4
      rw [f_X8_laysCommutators_202]
      by_cases c1 : 100 ≤ d
      · left
        obtain rfl : d = 100 := by omega
        rw [if_pos (by decide)]
        exact ⟨f, J1, rfl, p5, p6, p7⟩
      · right
        have hd1 : d < 100 := by omega
        obtain ⟨q1, q2, K, T', q3, q4, q5, q6, q7, q8, q9, q10⟩ := id p5
        obtain ⟨A1, A2⟩ := hA.frS q1 ha2
        refine ⟨by omega, ?_⟩
        rw [if_neg (ge100 hd1), ad_c, q_chk (by omega) (by decide), q_ix (by omega)]
        by_cases c2 : J1 52 (100 * a + d) = 0
        · refine ⟨(b2i f, nI (d + 1), J1, M1), ?_, by omega, rfl, rfl, p3, f, rfl, p5, p6, fun hf t ht hr ho => ?_⟩
          · rw [if_pos c2, bnd_eq, nI_1]
          · by_cases e : t = d
            · subst e
              have := (cellz hd1).mp c2
              rw [A2 _ (by omega), hr] at this; cases this
            · exact p7 hf t (by omega) hr ho
        · have hrd : RT I a (d / 10) (d % 10) = true := by
            cases g : RT I a (d / 10) (d % 10)
            · exact absurd ((cellz hd1).mpr (by rw [A2 _ (by omega)]; exact g)) c2
            · rfl
          rw [if_neg c2, ob (isOwn_eq hd1)]
          by_cases c3 : d / 10 ≠ d % 10
          · have P1 : IsP 10 (T' (c / 10) (c % 10)) := ((q3.1 (c / 10) (by omega)).2 _ p3).2.1
            have P2 : IsP 10 (Ta (d / 10) (d % 10)) := ((hA.1 (d / 10) (by omega)).2 _ hrd).2.1
            have R1 : Row J1 53 (1000 * 2 + 100 * (c / 10) + 10 * (c % 10)) (T' (c / 10) (c % 10)) := q3.2 _ _ (by omega) (by omega) p3
            have R2 : Row (wp J1 46 0 (T' (c / 10) (c % 10))) 53 (1000 * a + 100 * (d / 10) + 10 * (d % 10)) (Ta (d / 10) (d % 10)) := Row_of (wp_ne (by decide)) (A1.2 _ _ (by omega) (by omega) (by rw [A2 _ (by omega)]; exact hrd))
            have x3 := turns_eq (I := wp (wp J1 46 0 (T' (c / 10) (c % 10))) 47 0 (Ta (d / 10) (d % 10))) (L := M1) (a := 46) (b := 47) (c := 48) P1 P2 (Row_ne (by decide) Row_wp) Row_wp (by decide) (by decide) (by decide) (by decide) (by decide) (by decide)
            generalize hJ3 : wp (wp (wp (wp (wp J1 46 0 (T' (c / 10) (c % 10))) 47 0 (Ta (d / 10) (d % 10))) 49 0 (iv (Ta (d / 10) (d % 10)))) 50 0 (cp (iv (Ta (d / 10) (d % 10))) (T' (c / 10) (c % 10)))) 48 0 (cj (T' (c / 10) (c % 10)) (Ta (d / 10) (d % 10))) = J3 at x3
            have F3 : Fr [46, 47, 48, 49, 50] J1 J3 := by rw [← hJ3]; exact ((((Fr_wp (by decide)).trans (Fr_wp (by decide))).trans (Fr_wp (by decide))).trans (Fr_wp (by decide))).trans (Fr_wp (by decide))
            have r48 : Row J3 48 0 (cj (T' (c / 10) (c % 10)) (Ta (d / 10) (d % 10))) := by rw [← hJ3]; exact Row_wp
            have S1 : SlotG J1 2 K := ⟨T', q3, q4, q5, q6⟩
            have S3 : SlotG J3 2 K := S1.fr (F3 52 (by decide)) (F3 53 (by decide))
            have Pj := IsP_cj (Nat.le_refl 10) P1 P2
            obtain ⟨b, hb⟩ := em_B (K (cj (T' (c / 10) (c % 10)) (Ta (d / 10) (d % 10))))
            obtain ⟨J4, w1, w2⟩ := isMemberG (L := M1) (s := 2) (by decide) S3 (a := 48) (by decide) r48 Pj hb
            have F4 : Fr [46, 47, 48, 49, 50, 54, 55, 56] J1 J4 := (F3.mono (by decide)).trans (w2.mono (by decide))
            have e52 := F4 52 (by decide)
            have e53 := F4 53 (by decide)
            have r48' : Row J4 48 0 (cj (T' (c / 10) (c % 10)) (Ta (d / 10) (d % 10))) := Row_of (w2 48 (by decide)) r48
            rw [decide_eq_true c3, if_neg b2i_t, q_ne10, q_ne10, q_div10 (by omega), q_rem10 (by omega), ob (laysCell_eq (s := 2) (by decide) (by omega) (by omega) (by decide) R1), q_ne10, q_ne10, q_div10 (by omega), q_rem10 (by omega), ob (laysCell_eq ha (by omega) (by omega) (by decide) R2), ob x3, ob w1]
            dsimp only
            cases b
            · obtain ⟨J5, y1, y2, y3, y4⟩ := adds_eq (L := M1) (s := 2) (by decide) (S1.fr e52 e53) (a := 48) (by decide) r48' Pj
              have hK : B (T' (c / 10) (c % 10)) := q8 _ (q4.2.2 _ _ (by omega) p3)
              obtain ⟨e1, e2, e3⟩ := Gen_add hB q8 (hcj _ d hK hd1 hrd)
              have hne : ¬ K (cj (T' (c / 10) (c % 10)) (Ta (d / 10) (d % 10))) := fun g => absurd (hb.mpr g) (by decide)
              obtain ⟨T5, t1, t2, t3, t4⟩ := y2
              have hr5 : RT J5 2 (c / 10) (c % 10) = true := by
                obtain ⟨g, g1, g2, g3⟩ := (q4.2.1 (c / 10) (c % 10) (by omega)).mp p3
                exact (t2.2.1 (c / 10) (c % 10) (by omega)).mpr ⟨g, e1 g g1, g2, g3⟩
              refine ⟨(b2i true, nI (d + 1), J5, M1), ?_, by omega, rfl, rfl, hr5, true, rfl, ⟨q1.trans ((FrS.of e52 e53).trans y4), (q2.trans (F4.mono (by decide))).trans (y3.mono (by decide)), _, T5, t1, t2, t3, t4, fun p hp => e1 p (q7 p hp), e2, (fun g => by cases g), fun _ => ⟨_, e3, fun g => hne (q7 _ g)⟩⟩, fun _ => rfl, fun g => by cases g⟩
              rw [if_pos b2i_f, ob y1, bnd_eq, nI_1]
              rfl
            · refine ⟨(b2i f, nI (d + 1), J4, M1), ?_, by omega, rfl, rfl, by dsimp only; rw [RT_fr e52]; exact p3, f, rfl, ⟨q1.trans (FrS.of e52 e53), q2.trans (F4.mono (by decide)), K, T', q3.fr e52 e53, by dsimp only; rw [RT_fr e52]; exact q4, q5, fun c hc => by dsimp only; rw [e52]; exact q6 c hc, q7, q8, fun g => ⟨e52.trans (q9 g).1, e53.trans (q9 g).2.1, (q9 g).2.2⟩, q10⟩, p6, fun hf t ht hr ho => ?_⟩
              · rw [if_neg b2i_t, bnd_eq, nI_1]
              · by_cases e : t = d
                · subst e
                  have h1 := hb.mp rfl
                  rw [(q9 hf).2.2.1, (q9 hf).2.2.2] at h1
                  exact h1
                · exact p7 hf t (by omega) hr ho
          · refine ⟨(b2i f, nI (d + 1), J1, M1), ?_, by omega, rfl, rfl, p3, f, rfl, p5, p6, fun hf t ht hr ho => ?_⟩
            · rw [decide_eq_false c3, if_pos b2i_f, bnd_eq, nI_1]
            · by_cases e : t = d
              · subst e; exact absurd ho c3
              · exact p7 hf t (by omega) hr ho)
  rw [nI_0] at this
  exact this
theorem lc166 (ha : a < 4) (ha2 : a ≠ 2) (hA : SlotOK I a Ta) (hB : Sub 10 B) (hcj : ∀ x d, B x → d < 100 → RT I a (d / 10) (d % 10) = true → B (cj x (Ta (d / 10) (d % 10)))) (hP : PW I J0 T K0 B false J0) (k0 : Int32 → MI → ML → Option Mm) : ∃ f J', f_X8_laysCommutators_166 (nI a) (nI 2) k0 FU 0 0 J0 L = k0 (b2i f) J' L ∧ PW I J0 T K0 B f J' ∧ (f = false → ∀ s t, Own J0 2 T s → Own I a Ta t → K0 (cj s t)) := by
  have := loop0 (fun fu (z : Int32 × Int32 × MI × ML) => f_X8_laysCommutators_166 (nI a) (nI 2) k0 fu z.1 z.2.1 z.2.2.1 z.2.2.2) (fun i z => i ≤ 100 ∧ z.2.1 = nI i ∧ z.2.2.2 = L ∧ ∃ f, z.1 = b2i f ∧ PW I J0 T K0 B f z.2.2.1 ∧ (f = false → ∀ c, c < i → RT J0 2 (c / 10) (c % 10) = true → c / 10 ≠ c % 10 → ∀ t, Own I a Ta t → K0 (cj (T (c / 10) (c % 10)) t))) (fun o => ∃ f J', o = k0 (b2i f) J' L ∧ PW I J0 T K0 B f J' ∧ (f = false → ∀ s t, Own J0 2 T s → Own I a Ta t → K0 (cj s t))) 100 (by omega) (b2i false, nI 0, J0, L) ⟨Nat.zero_le _, rfl, rfl, false, rfl, hP, fun _ d hd => by omega⟩
    (fun fu d z hd hP => by
      obtain ⟨z0, z1, J1, M1⟩ := z
      obtain ⟨_, p1, p2, f, p4, p5, p7⟩ := hP
      dsimp only at p1 p2 p4 p5 ⊢
      subst p1 p2 p4
      rw [f_X8_laysCommutators_166]
      by_cases c1 : 100 ≤ d
      · left
        obtain rfl : d = 100 := by omega
        rw [if_pos (by decide)]
        exact ⟨f, J1, rfl, p5, fun hf s t ⟨c, x1, x2, x3, x4⟩ ht => by rw [x4]; exact p7 hf c x1 x2 x3 t ht⟩
      · right
        have hd1 : d < 100 := by omega
        obtain ⟨q1, q2, K, T', q3, q4, q5, q6, q7, q8, q9, q10⟩ := id p5
        refine ⟨by omega, ?_⟩
        rw [if_neg (ge100 hd1), ad_c, q_chk (by omega) (by decide), q_ix (by omega)]
        by_cases c2 : J1 52 (100 * 2 + d) = 0
        · refine ⟨(b2i f, nI (d + 1), J1, M1), ?_, by omega, rfl, rfl, f, rfl, p5, fun hf t ht hr ho => ?_⟩
          · rw [if_pos c2, bnd_eq, nI_1]
          · by_cases e : t = d
            · subst e
              have := (cellz hd1).mp c2
              rw [RT_fr (q9 hf).1, hr] at this; cases this
            · exact p7 hf t (by omega) hr ho
        · have hrd : RT J1 2 (d / 10) (d % 10) = true := by
            cases g : RT J1 2 (d / 10) (d % 10)
            · exact absurd ((cellz hd1).mpr g) c2
            · rfl
          rw [if_neg c2, ob (isOwn_eq hd1)]
          by_cases c3 : d / 10 ≠ d % 10
          · obtain ⟨f2, J2, g1, g2, g3, g4⟩ := lc202 (L := M1) ha ha2 hd1 hA hB hcj p5 hrd (fun (v4_61 : Int32) (I_62 : MI) (L_63 : ML) => bnd (nI d + 1 : Int32) (fun v5_64 => f_X8_laysCommutators_166 (nI a) (nI 2) k0 fu v4_61 v5_64 I_62 L_63))
            refine ⟨(b2i f2, nI (d + 1), J2, M1), ?_, by omega, rfl, rfl, f2, rfl, g2, fun hf c hc hr ho t ht => ?_⟩
            · rw [decide_eq_true c3, if_neg b2i_t, g1, bnd_eq, nI_1]
            · by_cases e : c = d
              · subst e
                obtain ⟨x, x1, x2, x3, x4⟩ := ht
                rw [x4]; exact g4 hf x x1 x2 x3
              · refine p7 ?_ c (by omega) hr ho t ht
                cases h : f
                · rfl
                · rw [g3 h] at hf; cases hf
          · refine ⟨(b2i f, nI (d + 1), J1, M1), ?_, by omega, rfl, rfl, f, rfl, p5, fun hf t ht hr ho => ?_⟩
            · rw [decide_eq_false c3, if_pos b2i_f, bnd_eq, nI_1]
            · by_cases e : t = d
              · subst e; exact absurd ho c3
              · exact p7 hf t (by omega) hr ho)
  rw [nI_0] at this
  exact this
theorem lc155 (ha : a < 4) (ha2 : a ≠ 2) (hA : SlotOK I a Ta) (hB : Sub 10 B) (hcj : ∀ x d, B x → d < 100 → RT I a (d / 10) (d % 10) = true → B (cj x (Ta (d / 10) (d % 10)))) (hf : FrS 2 I J) (hF : Fr CS I J) (hJ : SlotG J 2 K0) (hK : ∀ p, K0 p → B p) : ∃ J' K, f_X8_laysCommutators_155 (nI a) (nI 2) FU 1 J L = some (J', L) ∧ FrS 2 I J' ∧ Fr CS I J' ∧ SlotG J' 2 K ∧ (∀ p, K0 p → K p) ∧ (∀ p, K p → B p) ∧ ∀ x t, K x → Own I a Ta t → K (cj x t) := by
  obtain ⟨N0, hN0⟩ := En_ex (Nat.le_refl 10) (hJ.elim (fun _ g => g.2.2.1))
  exact loop0 (fun fu (z : Int32 × MI × ML) => f_X8_laysCommutators_155 (nI a) (nI 2) fu z.1 z.2.1 z.2.2) (fun i z => z.2.2 = L ∧ FrS 2 I z.2.1 ∧ Fr CS I z.2.1 ∧ ∃ f K N, z.1 = b2i f ∧ SlotG z.2.1 2 K ∧ (∀ p, K0 p → K p) ∧ (∀ p, K p → B p) ∧ En K N ∧ ((f = true ∧ i ≤ N) ∨ (f = false ∧ i ≤ N + 1 ∧ ∀ x t, K x → Own I a Ta t → K (cj x t)))) (fun o => ∃ J' K, o = some (J', L) ∧ FrS 2 I J' ∧ Fr CS I J' ∧ SlotG J' 2 K ∧ (∀ p, K0 p → K p) ∧ (∀ p, K p → B p) ∧ ∀ x t, K x → Own I a Ta t → K (cj x t)) 3628802 (by omega) (1, J, L) ⟨rfl, hf, hF, true, K0, N0, rfl, hJ, fun _ h => h, hK, hN0, Or.inl ⟨rfl, Nat.zero_le _⟩⟩
    (fun fu i z hi hP => by
      obtain ⟨z1, J1, M1⟩ := z
      obtain ⟨p1, p2, p3, f, K, N, p4, p5, p6, p7, p8, p9⟩ := hP
      dsimp only at p1 p2 p3 p4 p5 ⊢
      subst p1 p4
      obtain ⟨T', q3, q4, q5, q6⟩ := id p5
      rcases p9 with ⟨rfl, hiN⟩ | ⟨rfl, hiN, hcl⟩
      · right
        have hN := En_bd (Nat.le_refl 10) q5 p8
        obtain ⟨f2, J2, g1, ⟨g2, g3, K2, T2, g4, g5, g6, g7, g8, g9, g10, g11⟩, g12⟩ := lc166 (J0 := J1) (T := T') (K0 := K) (L := M1) ha ha2 hA hB hcj ⟨p2, p3, K, T', q3, q4, q5, q6, fun _ h => h, p7, fun _ => ⟨rfl, rfl, rfl, rfl⟩, fun g => by cases g⟩ (fun (v4_66 : Int32) (I_67 : MI) (L_68 : ML) => f_X8_laysCommutators_155 (nI a) (nI 2) fu v4_66 I_67 L_68)
        refine ⟨by omega, (b2i f2, J2, M1), ?_, rfl, g2, g3, ?_⟩
        · rw [f_X8_laysCommutators_155, if_neg b2i_t, g1]
        · obtain ⟨N2, hN2⟩ := En_ex (Nat.le_refl 10) g6
          refine ⟨f2, K2, N2, rfl, ⟨T2, g4, g5, g6, g7⟩, fun p hp => g8 p (p6 p hp), g9, hN2, ?_⟩
          cases f2
          · right
            obtain ⟨_, _, e1, e2⟩ := g10 rfl
            have eN : N2 = N := En_un hN2 (by rw [e1]; exact p8)
            refine ⟨rfl, by omega, fun x t hx ht => ?_⟩
            rw [e1] at hx ⊢
            have hG := Own_G q3 q4 q5
            have hSP : ∀ s, Own J1 2 T' s → IsP 10 s := fun s hs => q5.1 s (by rw [← hG]; exact Gen_in hs)
            have tP : IsP 10 t := by
              obtain ⟨c, x1, x2, x3, x4⟩ := ht
              rw [x4]; exact ((hA.1 (c / 10) (by omega)).2 _ x2).2.1
            exact norm_gen (Nat.le_refl 10) hSP q5 tP (fun s hs => g12 rfl s t hs ht) x (by rw [hG]; exact hx)
          · left
            refine ⟨rfl, ?_⟩
            obtain ⟨p, u1, u2⟩ := g11 rfl
            have h1 := En_le p8 hN2 g8
            have h2 : N2 ≠ N := fun e => u2 (En_eq p8 (by rw [← e]; exact hN2) g8 p u1)
            omega
      · left
        rw [f_X8_laysCommutators_155, if_pos b2i_f]
        exact ⟨J1, K, rfl, p2, p3, p5, p6, p7, hcl⟩)
theorem laysComm_eq {H K : PS} (ha : a < 4) (ha2 : a ≠ 2) (h1 : SlotG I 1 H) (hA : SlotG I a K) (hHK : ∀ p, H p → K p) : ∃ J, f_X8_laysCommutators (nI 1) (nI a) (nI 2) I L = some (J, L) ∧ SlotG J 2 (CmK 10 H K) ∧ FrS 2 I J ∧ Fr CS I J := by
  obtain ⟨I1, x1, x2, x3, x4⟩ := clears_eq (s := 2) (I := I) (L := L) (by decide)
  obtain ⟨T1, u1, u2, u3, _⟩ := h1.frS x4 (by decide)
  obtain ⟨Ta, v1, v2, v3, _⟩ := hA.frS x4 ha2
  have hB := CmK_Sub (Nat.le_refl 10) u3 v3
  have hS := Own_G u1 u2 u3
  have hT := Own_G v1 v2 v3
  obtain ⟨J1, K1, y1, y2, y3, y4, y5, y6⟩ := lc8 (I := I1) (L := L) (B := CmK 10 H K) ha ha2 u1 v1 hB (fun c d hc hd r1 r2 => CmK_cm (u2.2.2 _ _ (by omega) r1) (v2.2.2 _ _ (by omega) r2)) FrS.refl Fr.refl x2 (fun p hp => by rw [hp]; exact hB.2.1) (fun (I_29 : MI) (L_30 : ML) => f_X8_laysCommutators_155 (nI a) (nI 2) FU 1 I_29 L_30)
  obtain ⟨J2, K2, z1, z2, z3, z4, z5, z6, z7⟩ := lc155 (I := I1) (L := L) (B := CmK 10 H K) ha ha2 v1 hB (fun x d hx hd hr => CmK_cj hx (v2.2.2 _ _ (by omega) hr)) y2 y3 y4 y5
  refine ⟨J2, ?_, ?_, x4.trans z2, (x3.mono (by decide)).trans z3⟩
  · unfold f_X8_laysCommutators
    rw [ob x1, y1, z1]
  · have hSP : ∀ s, Own I1 1 T1 s → IsP 10 s := fun s hs => u3.1 s (by rw [← hS]; exact Gen_in hs)
    have hTP : ∀ t, Own I1 a Ta t → IsP 10 t := fun t ht => v3.1 t (by rw [← hT]; exact Gen_in ht)
    have e := CmK_eq (S := Own I1 1 T1) (T := Own I1 a Ta) (M := K2) (Nat.le_refl 10) hSP hTP (z4.elim (fun _ g => g.2.2.1)) (fun s hs => by rw [hT]; exact hHK s (by rw [← hS]; exact Gen_in hs)) (fun x t hx ht => z7 x t hx ht) (fun s t hs ht => z5 _ (y6 s t hs ht)) (fun p hp => by rw [hS, hT]; exact z6 p hp)
    rw [hS, hT] at e
    rw [← e]; exact z4
theorem CmK_10 {n : Nat} {H K : PS} (hn : n ≤ 10) (hH : Sub n H) (hK : Sub n K) : CmK 10 H K = CmK n H K := by
  funext p
  refine propext ⟨fun h M hM h1 h2 => h M (Sub_10 hn hM) h1 h2, fun h M hM h1 h2 => ?_⟩
  have := h (fun q => M q ∧ IsP n q) ⟨fun q hq => hq.2, ⟨hM.2.1, IsP_id n⟩, fun x y hx hy => ⟨hM.2.2.1 x y hx.1 hy.1, IsP_cp hx.2 hy.2⟩, fun x hx => ⟨hM.2.2.2 x hx.1, IsP_iv hn hx.2⟩⟩ (fun x k hx hk => ⟨h1 x k hx.1 hk, IsP_cj hn hx.2 (hK.1 k hk)⟩) (fun x k hx hk => ⟨h2 x k hx hk, IsP_cm hn (hH.1 x hx) (hK.1 k hk)⟩)
  exact this.1
theorem copiesSlot_eq {u v : Nat} {G : PS} (hu : u < 4) (hv : v < 4) (huv : u ≠ v) (h : SlotG I u G) : ∃ I', f_X8_copiesSlot (nI u) (nI v) I L = some (I', L) ∧ SlotG I' v G ∧ FrS v I I' ∧ Fr [52, 53] I I' := by
  obtain ⟨T, hS, hT, hG, hB⟩ := h
  have hn0 : vp_nar .boolean 0 = 0 := by decide
  have hn1 : vp_nar .boolean 1 = 1 := by decide
  unfold f_X8_copiesSlot
  have h1 : ∀ kk : MI → Option Mm, f_X8_copiesSlot_2 (nI u) (nI v) L kk FU 0 I = kk (wr I 52 (100 * v) 100 (fun i => vp_nar .boolean (I 52 (100 * u + i)))) := fun kk => by
    have := for0 (fun fu x => f_X8_copiesSlot_2 (nI u) (nI v) L kk fu x.1 x.2) (fun i => (nI i, wr I 52 (100 * v) i (fun i => vp_nar .boolean (I 52 (100 * u + i))))) 100 (kk (wr I 52 (100 * v) 100 (fun i => vp_nar .boolean (I 52 (100 * u + i))))) (by decide)
      (fun fu => by
        dsimp only
        rw [f_X8_copiesSlot_2, if_pos (by decide)])
      (fun fu i hi => by
        dsimp only
        rw [f_X8_copiesSlot_2, if_neg (ge100 hi), ad_c, ad_c, q_chk (by omega) (by decide), q_chk (by omega) (by decide), bnd_eq, bnd_eq, q_ix (by omega), q_ix (by omega), wr_s (by rw [wr_out (by omega)]), nI_1])
    rw [wr_0] at this
    exact this
  have h2 : ∀ J : MI, f_X8_copiesSlot_38 (nI u) (nI v) L FU 0 J = some (wr J 53 (1000 * v) 1000 (fun i => J 53 (1000 * u + i)), L) := fun J => by
    have := for0 (fun fu x => f_X8_copiesSlot_38 (nI u) (nI v) L fu x.1 x.2) (fun i => (nI i, wr J 53 (1000 * v) i (fun i => J 53 (1000 * u + i)))) 1000 (some (wr J 53 (1000 * v) 1000 (fun i => J 53 (1000 * u + i)), L)) (by decide)
      (fun fu => by
        dsimp only
        rw [f_X8_copiesSlot_38, if_pos (by decide)])
      (fun fu i hi => by
        dsimp only
        have e1 : ∀ x : Nat, (1000 * nI x) + nI i = nI (1000 * x + i) := fun x => by rw [show (1000 : Int32) = nI 1000 from rfl, pk_mul, nI_add]
        rw [f_X8_copiesSlot_38, if_neg (by rw [show (1000 : Int32) = nI 1000 from rfl, q_le (by decide) (by omega)]; omega), e1, e1, q_chk (by omega) (by decide), q_chk (by omega) (by decide), bnd_eq, bnd_eq, q_ix (by omega), q_ix (by omega), wr_s (by rw [wr_out (by omega)]), nI_1])
    rw [wr_0] at this
    exact this
  rw [h1, h2]
  have b52 : ∀ c, c < 100 → vp_nar .boolean (I 52 (100 * u + c)) = I 52 (100 * u + c) := fun c hc => by
    rcases hB c hc with e | e
    · rw [e, hn0]
    · rw [e, hn1]
  have b53 : wr I 52 (100 * v) 100 (fun i => vp_nar .boolean (I 52 (100 * u + i))) 53 = I 53 := wr_ne (by decide)
  rw [b53]
  generalize hI1 : wr (wr I 52 (100 * v) 100 (fun i => vp_nar .boolean (I 52 (100 * u + i)))) 53 (1000 * v) 1000 (fun i => I 53 (1000 * u + i)) = I1
  have g52 : ∀ c, c < 100 → I1 52 (100 * v + c) = I 52 (100 * u + c) := fun c hc => by rw [← hI1, wr_ne (by decide), wr_at hc]; exact b52 c hc
  have g53 : ∀ c, c < 1000 → I1 53 (1000 * v + c) = I 53 (1000 * u + c) := fun c hc => by rw [← hI1, wr_at hc]
  have e : ∀ k, k < 10 → RT I1 v k = RT I u k := fun k hk => by
    funext j
    unfold RT
    by_cases hj : j < 10
    · have := g52 (10 * k + j) (by omega)
      rw [show 100 * v + 10 * k + j = 100 * v + (10 * k + j) by omega, show 100 * u + 10 * k + j = 100 * u + (10 * k + j) by omega, this]
    · rw [decide_eq_false hj, Bool.false_and, Bool.false_and]
  have hS1 : SlotOK I1 v T := by
    refine ⟨fun k hk => ?_, fun k j hk hj hr => ?_⟩
    · have := hS.1 k hk
      unfold RB at this ⊢
      rw [e k hk]; exact this
    · rw [e k hk] at hr
      intro i hi
      have := g53 (100 * k + 10 * j + i) (by omega)
      rw [show 1000 * v + 100 * k + 10 * j + i = 1000 * v + (100 * k + 10 * j + i) by omega, this, show 1000 * u + (100 * k + 10 * j + i) = 1000 * u + 100 * k + 10 * j + i by omega]
      exact hS.2 k j hk hj hr i hi
  refine ⟨I1, rfl, ⟨T, hS1, ⟨hS1.1, fun k j hk => ?_, fun k j hk hr => ?_⟩, hG, fun c hc => by rw [g52 c hc]; exact hB c hc⟩, ⟨fun i hi => ?_, fun i hi => ?_, fun i => ?_⟩, fun q hq => ?_⟩
  · have := hT.2.1 k j hk
    unfold RB at this ⊢
    rw [e k hk]; exact this
  · refine hT.2.2 k j hk ?_
    unfold RB at hr ⊢
    rw [e k hk] at hr; exact hr
  · rw [← hI1, wr_ne (by decide), wr_out (by omega)]
  · rw [← hI1, wr_out (by omega), wr_ne (by decide)]
  · by_cases hi : 100 * v ≤ i ∧ i < 100 * v + 100
    · have := g52 (i - 100 * v) (by omega)
      rw [show 100 * v + (i - 100 * v) = i by omega] at this
      rw [this]
      exact Or.inr (hB _ (by omega))
    · left
      rw [← hI1, wr_ne (by decide), wr_out (by omega)]
  · rw [← hI1, wr_ne (fun g => hq (by rw [g]; decide)), wr_ne (fun g => hq (by rw [g]; decide))]
end LC
