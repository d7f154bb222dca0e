/-! closes, adds, builds -/
theorem q_div10 {b : Nat} (h : b < 2 ^ 31) : nI b / 10 = nI (b / 10) := pk_div (d := 10) h (by decide) (by decide)
theorem q_rem10 {b : Nat} (h : b < 2 ^ 31) : irem (nI b) 10 = nI (b % 10) := pk_rem (d := 10) h (by decide) (by decide)
theorem q_ne10 {β : Type} {x : Option β} : chk (decide ((10 : Int32) ≠ 0)) x = x := chk_pos (by decide)
theorem ge100 {i : Nat} (h : i < 100) : ¬ (100 : Int32) ≤ nI i := nI_ge (b := 100) h (by decide)
theorem ad_c (s c : Nat) : (100 * nI s) + nI c = nI (100 * s + c) := by
  rw [show (100 : Int32) = nI 100 from rfl, pk_mul, nI_add]
theorem b2i_or (a b : Bool) : b2i a ||| b2i b = b2i (a || b) := by cases a <;> cases b <;> decide
section CL
variable {s : Nat}
theorem RT_cell {I : MI} {c : Nat} (h : c < 100) : RT I s (c / 10) (c % 10) = decide (I 52 (100 * s + c) ≠ 0) := by
  rw [RT_in (by omega), show 100 * s + 10 * (c / 10) + c % 10 = 100 * s + c by omega]
theorem closes47 (hs : s < 4) {a : Nat} (ha : a < 100) (k0 : Int32 → MI → ML → Option Mm) : ∀ d fu I L T (v : Bool), d ≤ 100 → d < fu → SlotOK I s T → RT I s (a / 10) (a % 10) = true → ∃ v' I' T', f_X8_closes_47 (nI s) (nI a) k0 fu (b2i v) (nI (100 - d)) I L = k0 (b2i v') I' L ∧ Grw s I T I' T' ∧ (v = true → v' = true) ∧ (v' = false → RT I' s = RT I s ∧ T' = T ∧ ∀ b, 100 - d ≤ b → b < 100 → RT I s (b / 10) (b % 10) = true → b / 10 ≠ b % 10 → SM 10 (RB (RT I s)) T 10 (cp (T (a / 10) (a % 10)) (T (b / 10) (b % 10)))) ∧ (v = false → v' = true → cntN (RT I s) 100 < cntN (RT I' s) 100) := by
  intro d
  induction d with
  | zero =>
    intro fu I L T v _ h2 hS hRa
    obtain ⟨fu, rfl⟩ : ∃ m, fu = m + 1 := ⟨fu - 1, by omega⟩
    rw [f_X8_closes_47, show 100 - 0 = 100 from rfl, if_pos (by decide)]
    exact ⟨v, I, T, rfl, Grw.refl hS, id, fun _ => ⟨rfl, rfl, fun b h3 h4 => by omega⟩, fun h3 h4 => by rw [h3] at h4; cases h4⟩
  | succ d ih =>
    intro fu I L T v hd h2 hS hRa
    obtain ⟨fu, rfl⟩ : ∃ m, fu = m + 1 := ⟨fu - 1, by omega⟩
    generalize hc : 100 - (d + 1) = c
    have hc1 : c < 100 := by omega
    have hcd : 100 - d = c + 1 := by omega
    rw [f_X8_closes_47, if_neg (ge100 hc1), ad_c, q_chk (by omega) (by decide), q_ix (by omega)]
    have skip : (RT I s (c / 10) (c % 10) = true → c / 10 = c % 10) → ∃ v' I' T', f_X8_closes_47 (nI s) (nI a) k0 fu (b2i v) (nI (c + 1)) I L = k0 (b2i v') I' L ∧ Grw s I T I' T' ∧ (v = true → v' = true) ∧ (v' = false → RT I' s = RT I s ∧ T' = T ∧ ∀ b, c ≤ b → b < 100 → RT I s (b / 10) (b % 10) = true → b / 10 ≠ b % 10 → SM 10 (RB (RT I s)) T 10 (cp (T (a / 10) (a % 10)) (T (b / 10) (b % 10)))) ∧ (v = false → v' = true → cntN (RT I s) 100 < cntN (RT I' s) 100) := by
      intro hno
      obtain ⟨v', I', T', i1, i2, i3, i4, i5⟩ := ih fu I L T v (by omega) (by omega) hS hRa
      rw [hcd] at i1
      refine ⟨v', I', T', i1, i2, i3, fun hv => ⟨(i4 hv).1, (i4 hv).2.1, fun b h3 h4 h5 h6 => ?_⟩, i5⟩
      by_cases e : b = c
      · rw [e] at h5 h6; exact absurd (hno h5) h6
      · exact (i4 hv).2.2 b (by omega) h4 h5 h6
    by_cases hz : I 52 (100 * s + c) = 0
    · rw [if_pos hz, bnd_eq, nI_1]
      refine skip (fun h => ?_)
      rw [RT_cell hc1] at h
      exact absurd hz (of_decide_eq_true h)
    · have hRc : RT I s (c / 10) (c % 10) = true := by rw [RT_cell hc1]; exact decide_eq_true hz
      rw [if_neg hz, q_ne10, q_ne10, q_div10 (by omega), q_rem10 (by omega), ifc (q_eq (by omega) (by omega))]
      by_cases hdg : c / 10 = c % 10
      · rw [if_pos hdg, bnd_eq, nI_1]
        exact skip (fun _ => hdg)
      · rw [if_neg hdg, q_ne10, q_ne10, q_div10 (by omega), q_rem10 (by omega), ob (laysCell_eq hs (by omega) (by omega) (by decide) (hS.2 _ _ (by omega) (by omega) hRa)), q_ne10, q_ne10]
        have f1 : Fr [54, 55, 56, 57, 58, 59] I (wp I 57 0 (T (a / 10) (a % 10))) := Fr_wp (by decide)
        have hS1 := hS.fr (f1 52 (by decide)) (f1 53 (by decide))
        have row2 := hS1.2 (c / 10) (c % 10) (by omega) (by omega) (by rw [RT_fr (f1 52 (by decide))]; exact hRc)
        rw [ob (laysCell_eq hs (by omega) (by omega) (by decide) row2)]
        obtain ⟨a1, a2, a3, a4⟩ := (hS.1 (a / 10) (by omega)).2 _ hRa
        obtain ⟨c1, c2, c3, c4⟩ := (hS.1 (c / 10) (by omega)).2 _ hRc
        have r1 : Row (wp (wp I 57 0 (T (a / 10) (a % 10))) 58 0 (T (c / 10) (c % 10))) 57 0 (T (a / 10) (a % 10)) := Row_ne (by decide) Row_wp
        rw [ob (makes_eq r1 Row_wp a2 (by decide) (by decide))]
        generalize hI3 : wp (wp (wp I 57 0 (T (a / 10) (a % 10))) 58 0 (T (c / 10) (c % 10))) 59 0 (cp (T (a / 10) (a % 10)) (T (c / 10) (c % 10))) = I3
        have f3 : Fr [54, 55, 56, 57, 58, 59] I I3 := by
          rw [← hI3]
          exact (f1.trans (Fr_wp (by decide))).trans (Fr_wp (by decide))
        have hG3 := Grw_fr hS f3
        have r3 : Row I3 59 0 (cp (T (a / 10) (a % 10)) (T (c / 10) (c % 10))) := by rw [← hI3]; exact Row_wp
        have e52 := f3 52 (by decide)
        obtain ⟨v2, I4, T4, j1, j2, j3, j4, j5, j6, j7, j8⟩ := comesTo_eq (L := L) hs (by decide) hG3.1 r3 (IsP_cp a2 c2)
        rw [ob j1, bnd_eq, b2i_or, bnd_eq, nI_1]
        have hG4 : Grw s I T I4 T4 := by
          refine hG3.trans ⟨j2, j3, j4, j5, fun H hH => ?_⟩
          rw [j6 H hH]
          refine ⟨fun g => g.1, fun g => ⟨g, ?_⟩⟩
          refine hH.2.2.1 _ _ (g _ ⟨a / 10, a % 10, by omega, by omega, by rw [RT_fr e52]; exact hRa, rfl⟩) (g _ ⟨c / 10, c % 10, by omega, by omega, by rw [RT_fr e52]; exact hRc, rfl⟩)
        obtain ⟨v', I', T', i1, i2, i3, i4, i5⟩ := ih fu I4 L T4 (v || v2) (by omega) (by omega) j2 (hG4.2.2.2.1 _ _ (by omega) (by omega) hRa)
        rw [hcd] at i1
        refine ⟨v', I', T', i1, hG4.trans i2, fun hv => i3 (by rw [hv]; rfl), fun hv => ?_, fun hv hv' => ?_⟩
        · obtain ⟨k1, k2, k3⟩ := i4 hv
          have hv2 : v2 = false := by
            cases h : v2
            · rfl
            · have := i3 (by rw [h]; cases v <;> rfl)
              rw [this] at hv; cases hv
          obtain ⟨m1, m2, m3⟩ := j7 hv2
          have eR : RT I4 s = RT I s := by rw [m1, RT_fr e52]
          rw [eR, m2] at k3
          refine ⟨by rw [k1, eR], by rw [k2, m2], fun b h3 h4 h5 h6 => ?_⟩
          by_cases e : b = c
          · rw [e]
            rw [RT_fr e52] at m3
            exact m3
          · exact k3 b (by omega) h4 h5 h6
        · have hle := cntN_le (fun k j hk hj => i2.2.2.2.1 k j hk hj) 100 (Nat.le_refl _)
          cases h : v2
          · have := i5 (by rw [hv, h]; rfl) hv'
            obtain ⟨m1, m2, m3⟩ := j7 h
            have eR : RT I4 s = RT I s := by rw [m1, RT_fr e52]
            rw [eR] at this
            exact this
          · have := j8 h
            rw [RT_fr e52] at this
            omega
theorem closes10 (hs : s < 4) (k0 : Int32 → MI → ML → Option Mm) : ∀ d fu I L T (v : Bool), d ≤ 100 → d < fu → SlotOK I s T → ∃ v' I' T', f_X8_closes_10 (nI s) k0 fu (b2i v) (nI (100 - d)) I L = k0 (b2i v') I' L ∧ Grw s I T I' T' ∧ (v = true → v' = true) ∧ (v' = false → RT I' s = RT I s ∧ T' = T ∧ ∀ a b, 100 - d ≤ a → a < 100 → b < 100 → RT I s (a / 10) (a % 10) = true → a / 10 ≠ a % 10 → RT I s (b / 10) (b % 10) = true → b / 10 ≠ b % 10 → SM 10 (RB (RT I s)) T 10 (cp (T (a / 10) (a % 10)) (T (b / 10) (b % 10)))) ∧ (v = false → v' = true → cntN (RT I s) 100 < cntN (RT I' s) 100) := by
  intro d
  induction d with
  | zero =>
    intro fu I L T v _ h2 hS
    obtain ⟨fu, rfl⟩ : ∃ m, fu = m + 1 := ⟨fu - 1, by omega⟩
    rw [f_X8_closes_10, show 100 - 0 = 100 from rfl, if_pos (by decide)]
    exact ⟨v, I, T, rfl, Grw.refl hS, id, fun _ => ⟨rfl, rfl, fun a b h3 h4 => by omega⟩, fun h3 h4 => by rw [h3] at h4; cases h4⟩
  | succ d ih =>
    intro fu I L T v hd h2 hS
    obtain ⟨fu, rfl⟩ : ∃ m, fu = m + 1 := ⟨fu - 1, by omega⟩
    generalize hc : 100 - (d + 1) = c
    have hc1 : c < 100 := by omega
    have hcd : 100 - d = c + 1 := by omega
    rw [f_X8_closes_10, if_neg (ge100 hc1), ad_c, q_chk (by omega) (by decide), q_ix (by omega)]
    have skip : (RT I s (c / 10) (c % 10) = true → c / 10 = c % 10) → ∃ v' I' T', f_X8_closes_10 (nI s) k0 fu (b2i v) (nI (c + 1)) I L = k0 (b2i v') I' L ∧ Grw s I T I' T' ∧ (v = true → v' = true) ∧ (v' = false → RT I' s = RT I s ∧ T' = T ∧ ∀ a b, c ≤ a → a < 100 → b < 100 → RT I s (a / 10) (a % 10) = true → a / 10 ≠ a % 10 → RT I s (b / 10) (b % 10) = true → b / 10 ≠ b % 10 → SM 10 (RB (RT I s)) T 10 (cp (T (a / 10) (a % 10)) (T (b / 10) (b % 10)))) ∧ (v = false → v' = true → cntN (RT I s) 100 < cntN (RT I' s) 100) := by
      intro hno
      obtain ⟨v', I', T', i1, i2, i3, i4, i5⟩ := ih fu I L T v (by omega) (by omega) hS
      rw [hcd] at i1
      refine ⟨v', I', T', i1, i2, i3, fun hv => ⟨(i4 hv).1, (i4 hv).2.1, fun a b h3 h4 h5 h6 h7 h8 h9 => ?_⟩, i5⟩
      by_cases e : a = c
      · rw [e] at h6 h7; exact absurd (hno h6) h7
      · exact (i4 hv).2.2 a b (by omega) h4 h5 h6 h7 h8 h9
    by_cases hz : I 52 (100 * s + c) = 0
    · rw [if_pos hz, bnd_eq, nI_1]
      refine skip (fun h => ?_)
      rw [RT_cell hc1] at h
      exact absurd hz (of_decide_eq_true h)
    · have hRc : RT I s (c / 10) (c % 10) = true := by rw [RT_cell hc1]; exact decide_eq_true hz
      rw [if_neg hz, q_ne10, q_ne10, q_div10 (by omega), q_rem10 (by omega), ifc (q_eq (by omega) (by omega))]
      by_cases hdg : c / 10 = c % 10
      · rw [if_pos hdg, bnd_eq, nI_1]
        exact skip (fun _ => hdg)
      · rw [if_neg hdg]
        obtain ⟨v2, I2, T2, j1, j2, j3, j4, j5⟩ := closes47 hs hc1 (fun (v2_25 : Int32) (I_26 : MI) (L_27 : ML) => bnd (nI c + 1 : Int32) (fun v3_28 => f_X8_closes_10 (nI s) k0 fu v2_25 v3_28 I_26 L_27)) 100 FU I L T v (Nat.le_refl _) (by unfold FU; omega) hS hRc
        rw [show 100 - 100 = 0 from rfl] at j1
        refine Exists.elim (ih fu I2 L T2 v2 (by omega) (by omega) j2.1) (fun v' ⟨I', T', i1, i2, i3, i4, i5⟩ => ?_)
        rw [hcd] at i1
        refine ⟨v', I', T', j1.trans ?_, j2.trans i2, fun hv => i3 (j3 hv), fun hv => ?_, fun hv hv' => ?_⟩
        · show bnd (nI c + 1 : Int32) _ = _
          rw [bnd_eq, nI_1]; exact i1
        · obtain ⟨k1, k2, k3⟩ := i4 hv
          have hv2 : v2 = false := by
            cases h : v2
            · rfl
            · have := i3 h
              rw [this] at hv; cases hv
          obtain ⟨m1, m2, m3⟩ := j4 hv2
          rw [m1, m2] at k3
          refine ⟨by rw [k1, m1], by rw [k2, m2], fun a b h3 h4 h5 h6 h7 h8 h9 => ?_⟩
          by_cases e : a = c
          · rw [e]; exact m3 b (by omega) h5 h8 h9
          · exact k3 a b (by omega) h4 h5 h6 h7 h8 h9
        · have hle := cntN_le (fun k j hk hj => i2.2.2.2.1 k j hk hj) 100 (Nat.le_refl _)
          cases h : v2
          · have := i5 h hv'
            rw [(j4 h).1] at this
            exact this
          · have := j5 hv h
            omega
def Closed (I : MI) (s : Nat) (T : Nat → Nat → Nat → Nat) : Prop := ∀ k j k' j', k < 10 → k' < 10 → RT I s k j = true → RT I s k' j' = true → SM 10 (RB (RT I s)) T 10 (cp (T k j) (T k' j'))
theorem closes2 (hs : s < 4) : ∀ m fu I L T (v : Bool), 100 - cntN (RT I s) 100 ≤ m → m + 1 < fu → SlotOK I s T → (v = false → Closed I s T) → ∃ I' T', f_X8_closes_2 (nI s) fu (b2i v) I L = some (I', L) ∧ Grw s I T I' T' ∧ Closed I' s T' := by
  intro m
  induction m with
  | zero =>
    intro fu I L T v hm h2 hS hv
    obtain ⟨fu, rfl⟩ : ∃ m, fu = m + 1 := ⟨fu - 1, by omega⟩
    rw [f_X8_closes_2]
    cases hvv : v
    · rw [if_pos (show b2i false = 0 from rfl)]
      exact ⟨I, T, rfl, Grw.refl hS, hv hvv⟩
    · rw [if_neg (by decide)]
      obtain ⟨v', I', T', i1, i2, i3, i4, i5⟩ := closes10 hs (fun (v2_30 : Int32) (I_31 : MI) (L_32 : ML) => f_X8_closes_2 (nI s) fu v2_30 I_31 L_32) 100 FU I L T false (Nat.le_refl _) (by unfold FU; omega) hS
      rw [show 100 - 100 = 0 from rfl] at i1
      have hv' : v' = false := by
        cases h : v'
        · rfl
        · have := i5 rfl h
          have h3 := cntN_max (RT I' s) 100
          omega
      obtain ⟨k1, k2, k3⟩ := i4 hv'
      obtain ⟨fu, rfl⟩ : ∃ m, fu = m + 1 := ⟨fu - 1, by omega⟩
      refine ⟨I', T', i1.trans ?_, i2, ?_⟩
      · show f_X8_closes_2 (nI s) (fu + 1) (b2i v') I' L = _
        rw [hv', f_X8_closes_2, if_pos (show b2i false = 0 from rfl)]
      · unfold Closed
        rw [k1, k2]
        intro k j k' j' hk hk' hr hr'
        have hj := RT_lt hr
        have hj' := RT_lt hr'
        by_cases e1 : k = j
        · rw [← e1, ((hS.1 k hk).1).2, id_cp]; exact SM_of_Ent hS hk' hr'
        · by_cases e2 : k' = j'
          · rw [← e2, ((hS.1 k' hk').1).2, cp_id]; exact SM_of_Ent hS hk hr
          · have := k3 (10 * k + j) (10 * k' + j') (by omega) (by omega) (by omega)
            rw [show (10 * k + j) / 10 = k by omega, show (10 * k + j) % 10 = j by omega, show (10 * k' + j') / 10 = k' by omega, show (10 * k' + j') % 10 = j' by omega] at this
            exact this hr e1 hr' e2
  | succ m ih =>
    intro fu I L T v hm h2 hS hv
    obtain ⟨fu, rfl⟩ : ∃ m, fu = m + 1 := ⟨fu - 1, by omega⟩
    rw [f_X8_closes_2]
    cases hvv : v
    · rw [if_pos (show b2i false = 0 from rfl)]
      exact ⟨I, T, rfl, Grw.refl hS, hv hvv⟩
    · rw [if_neg (by decide)]
      obtain ⟨v', I', T', i1, i2, i3, i4, i5⟩ := closes10 hs (fun (v2_30 : Int32) (I_31 : MI) (L_32 : ML) => f_X8_closes_2 (nI s) fu v2_30 I_31 L_32) 100 FU I L T false (Nat.le_refl _) (by unfold FU; omega) hS
      rw [show 100 - 100 = 0 from rfl] at i1
      cases hv' : v'
      · obtain ⟨k1, k2, k3⟩ := i4 hv'
        obtain ⟨fu, rfl⟩ : ∃ m, fu = m + 1 := ⟨fu - 1, by omega⟩
        refine ⟨I', T', i1.trans ?_, i2, ?_⟩
        · show f_X8_closes_2 (nI s) (fu + 1) (b2i v') I' L = _
          rw [hv', f_X8_closes_2, if_pos (show b2i false = 0 from rfl)]
        · unfold Closed
          rw [k1, k2]
          intro k j k' j' hk hk' hr hr'
          have hj := RT_lt hr
          have hj' := RT_lt hr'
          by_cases e1 : k = j
          · rw [← e1, ((hS.1 k hk).1).2, id_cp]; exact SM_of_Ent hS hk' hr'
          · by_cases e2 : k' = j'
            · rw [← e2, ((hS.1 k' hk').1).2, cp_id]; exact SM_of_Ent hS hk hr
            · have := k3 (10 * k + j) (10 * k' + j') (by omega) (by omega) (by omega)
              rw [show (10 * k + j) / 10 = k by omega, show (10 * k + j) % 10 = j by omega, show (10 * k' + j') / 10 = k' by omega, show (10 * k' + j') % 10 = j' by omega] at this
              exact this hr e1 hr' e2
      · have hlt := i5 rfl hv'
        obtain ⟨I2, T2, j1, j2, j3⟩ := ih fu I' L T' true (by omega) (by omega) i2.1 (fun h => by cases h)
        refine ⟨I2, T2, i1.trans ?_, i2.trans j2, j3⟩
        rw [hv']; exact j1
theorem closes_eq (hs : s < 4) {I : MI} {L : ML} {T : Nat → Nat → Nat → Nat} (hS : SlotOK I s T) : ∃ I' T', f_X8_closes (nI s) I L = some (I', L) ∧ Grw s I T I' T' ∧ Closed I' s T' := by
  unfold f_X8_closes
  exact closes2 hs 100 FU I L T true (by omega) (by unfold FU; omega) hS (fun h => by cases h)
/-- a closed table is one of the group of what is in it -/
theorem Closed_G {I : MI} {T : Nat → Nat → Nat → Nat} (hS : SlotOK I s T) (hC : Closed I s T) : ∀ p, SM 10 (RB (RT I s)) T 10 p ↔ Gen 10 (Ent I s T) p := by
  have h := chain (Nat.le_refl 10) hS.1 (fun k q => ∃ k' j', k ≤ k' ∧ k' < 10 ∧ RT I s k' j' = true ∧ q = T k' j') 0
    (fun k q ⟨k', j', h1, h2, h3, e⟩ => by
      obtain ⟨t1, t2, t3, t4⟩ := (hS.1 k' h2).2 _ h3
      rw [e]; exact ⟨t2, fun i hi => t3 i (by omega)⟩)
    (fun k j _ hk hr => Gen_in ⟨k, j, Nat.le_refl _, hk, hr, rfl⟩)
    (fun k q _ _ ⟨k', j', h1, h2, h3, e⟩ => Gen_in ⟨k', j', by omega, h2, h3, e⟩)
    (fun k j q _ hk hr ⟨k', j', h1, h2, h3, e⟩ => by
      obtain ⟨t1, t2, t3, t4⟩ := (hS.1 k' h2).2 _ h3
      obtain ⟨u1, u2, u3, u4⟩ := (hS.1 k hk).2 _ hr
      refine SM_down (Nat.le_refl 10) hS.1 10 (by omega) (Nat.le_refl 10) (by rw [e]; exact hC k j k' j' hk h2 hr h3) (fun i hi => ?_)
      rw [e]
      show T k' j' (T k j i) = i
      rw [u3 i (by omega), t3 i (by omega)])
    9 (by decide) (Nat.zero_le _)
  intro p
  refine (h p).trans ?_
  have e : (fun q => ∃ k' j', 10 - (9 + 1) ≤ k' ∧ k' < 10 ∧ RT I s k' j' = true ∧ q = T k' j') = Ent I s T := by
    funext q
    refine propext ⟨fun ⟨k', j', _, h2, h3, e⟩ => ⟨k', j', h2, RT_lt h3, h3, e⟩, fun ⟨k', j', h2, _, h3, e⟩ => ⟨k', j', by omega, h2, h3, e⟩⟩
  show Gen 10 (fun q => ∃ k' j', 10 - (9 + 1) ≤ k' ∧ k' < 10 ∧ RT I s k' j' = true ∧ q = T k' j') p ↔ _
  rw [e]
end CL
/-- a slot's marks are 0 or 1 -/
def Bo (I : MI) (s : Nat) : Prop := ∀ c, c < 100 → I 52 (100 * s + c) = 0 ∨ I 52 (100 * s + c) = 1
theorem Bo.fs {I I' : MI} {s s' : Nat} (h : Bo I s) (hf : FrS s' I I') : Bo I' s := fun c hc => (hf.2.2 (100 * s + c)).elim (fun e => by rw [e]; exact h c hc) id
def SlotG (I : MI) (s : Nat) (G : PS) : Prop := ∃ T, SlotOK I s T ∧ TabG 10 G (RB (RT I s)) T ∧ Sub 10 G ∧ Bo I s
theorem SlotG_of {I : MI} {s : Nat} {T : Nat → Nat → Nat → Nat} (hS : SlotOK I s T) (hC : Closed I s T) (hB : Bo I s) : SlotG I s (Gen 10 (Ent I s T)) := by
  refine ⟨T, hS, TabG_of (Nat.le_refl 10) hS.1 (Closed_G hS hC), Gen_Sub (Nat.le_refl 10) (fun q ⟨k, j, h1, h2, h3, e⟩ => by rw [e]; exact ((hS.1 k h1).2 j h3).2.1), hB⟩
theorem SlotG.fr {I I' : MI} {s : Nat} {G : PS} (h : SlotG I s G) (h1 : I' 52 = I 52) (h2 : I' 53 = I 53) : SlotG I' s G := by
  obtain ⟨T, a, b, c, hB⟩ := h
  refine ⟨T, a.fr h1 h2, ?_, c, fun c hc => by rw [h1]; exact hB c hc⟩
  rw [RT_fr h1]; exact b
theorem SlotOK.frS {I I' : MI} {s s' : Nat} {T : Nat → Nat → Nat → Nat} (h : SlotOK I s' T) (hf : FrS s I I') (hne : s' ≠ s) : SlotOK I' s' T ∧ ∀ k, k < 10 → RT I' s' k = RT I s' k := by
  have e : ∀ k, k < 10 → RT I' s' k = RT I s' k := by
    intro k hk
    funext j
    unfold RT
    by_cases hj : j < 10
    · rw [hf.1 _ (by omega)]
    · rw [decide_eq_false hj, Bool.false_and, Bool.false_and]
  refine ⟨⟨fun k hk => ?_, fun k j hk hj hr => ?_⟩, e⟩
  · have := h.1 k hk
    unfold RB at this ⊢
    rw [e k hk]
    exact this
  · rw [e k hk] at hr
    intro i hi
    rw [hf.2.1 _ (by omega)]
    exact h.2 k j hk hj hr i hi
theorem SlotG.frS {I I' : MI} {s s' : Nat} {G : PS} (h : SlotG I s' G) (hf : FrS s I I') (hne : s' ≠ s) : SlotG I' s' G := by
  obtain ⟨T, a, b, c, hB⟩ := h
  obtain ⟨a1, a2⟩ := a.frS hf hne
  refine ⟨T, a1, ⟨a1.1, fun k j hk => ?_, fun k j hk hr => ?_⟩, c, hB.fs hf⟩
  · have := b.2.1 k j hk
    unfold RB at this ⊢
    rw [a2 k hk]; exact this
  · refine b.2.2 k j hk ?_
    unfold RB at hr ⊢
    rw [a2 k hk] at hr; exact hr
theorem SlotG.mem {I : MI} {s : Nat} {G : PS} {T : Nat → Nat → Nat → Nat} (hS : SlotOK I s T) (hT : TabG 10 G (RB (RT I s)) T) (hG : Sub 10 G) (p : Nat → Nat) : SM 10 (RB (RT I s)) T 10 p ↔ G p :=
  (TabG_SM (Nat.le_refl 10) hG hT 10 (Nat.le_refl 10) p).trans ⟨fun h => h.1, fun h => ⟨h, fun i hi => by omega⟩⟩
theorem isMemberG {I : MI} {L : ML} {s : Nat} {G : PS} {p : Nat → Nat} {a : Nat} (hs : s < 4) (h : SlotG I s G) (ha : a ≠ 56) (hr : Row I a 0 p) (hp : IsP 10 p) {c : Bool} (hc : c = true ↔ G p) : ∃ I', f_X8_isMember (nI s) a I L = some (c, I', L) ∧ Fr [54, 55, 56] I I' := by
  obtain ⟨T, a1, b, c1, _⟩ := h
  exact isMember_eq hs ha a1 hr hp (hc.trans (SlotG.mem a1 b c1 p).symm)
theorem adds_eq {I : MI} {L : ML} {s : Nat} {G : PS} {p : Nat → Nat} {a : Nat} (hs : s < 4) (h : SlotG I s G) (ha : a ≠ 56) (hr : Row I a 0 p) (hp : IsP 10 p) : ∃ I', f_X8_adds (nI s) a I L = some (I', L) ∧ SlotG I' s (Gen 10 (fun q => G q ∨ q = p)) ∧ Fr SC I I' ∧ FrS s I I' := by
  obtain ⟨T, a1, b, c1, hB⟩ := h
  obtain ⟨c, I1, T1, j1, j2, j3, j4, j5, j6, j7, j8⟩ := comesTo_eq (L := L) hs ha a1 hr hp
  have hGP : ∀ q, (G q ∨ q = p) → IsP 10 q := fun q hq => hq.elim (c1.1 q) (fun e => e ▸ hp)
  have hSub := Gen_Sub (Nat.le_refl 10) hGP
  have hEG : ∀ q, Ent I s T q → G q := fun q ⟨k, j, h1, h2, h3, e⟩ => by rw [e]; exact b.2.2 k j h1 h3
  unfold f_X8_adds
  rw [ob j1]
  cases hc : c
  · rw [if_pos (show b2i false = 0 from rfl)]
    obtain ⟨m1, m2, m3⟩ := j7 hc
    have hpG : G p := (SlotG.mem a1 b c1 p).mp m3
    have e : Gen 10 (fun q => G q ∨ q = p) = G := by
      funext q
      exact propext ⟨fun g => g G c1 (fun a ha => ha.elim id (fun e => e ▸ hpG)), fun g => Gen_in (Or.inl g)⟩
    rw [e]
    refine ⟨I1, rfl, ⟨T, m2 ▸ j2, ?_, c1, hB.fs j4⟩, j3, j4⟩
    rw [m1]; exact b
  · rw [if_neg (show ¬ b2i true = 0 by decide)]
    obtain ⟨I2, T2, k1, k2, k3⟩ := closes_eq (L := L) hs j2
    rw [ob k1]
    refine ⟨I2, rfl, ?_, j3.trans k2.2.1, j4.trans k2.2.2.1⟩
    have hG2 := SlotG_of k2.1 k3 ((hB.fs j4).fs k2.2.2.1)
    have e : Gen 10 (Ent I2 s T2) = Gen 10 (fun q => G q ∨ q = p) := by
      have hP2 : ∀ q, Ent I2 s T2 q → IsP 10 q := fun q ⟨k, j, h1, h2, h3, e⟩ => by rw [e]; exact ((k2.1.1 k h1).2 j h3).2.1
      funext q
      refine propext ⟨fun g => g _ hSub ?_, fun g => g _ (Gen_Sub (Nat.le_refl 10) hP2) ?_⟩
      · refine (k2.2.2.2.2 _ hSub).mpr ((j6 _ hSub).mpr ⟨fun a ha => Gen_in (Or.inl (hEG a ha)), Gen_in (Or.inr rfl)⟩)
      · have hsub2 := Gen_Sub (Nat.le_refl 10) hP2
        have := (j6 _ hsub2).mp ((k2.2.2.2.2 _ hsub2).mp (fun a ha => Gen_in ha))
        intro a ha
        rcases ha with ha | ha
        · exact SM_in a1 hsub2 this.1 (c1.1 a ha) ((SlotG.mem a1 b c1 a).mpr ha)
        · rw [ha]; exact this.2
    rw [← e]
    exact hG2
