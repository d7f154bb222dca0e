/-! new int[12][r] on the pure face -/
theorem cl_X4_66 : Cond.classLink RX4 66 "[[I" ∈ wsA := tb3 (List.mem_of_getElem? (i := 239) rfl) rfl
theorem ac_int : Cond.arrayClass .int ∈ wsA := tb1 (List.mem_of_getElem? (i := 88) rfl) rfl
theorem wd_inv {tc : Nat → ClassId} {ad : Nat → Nat} {K : KT} {R : MR} {I : MI} {L : ML} {p : Nat} {q : Nat × va_E} (h : (wd tc ad K R I L)[p]? = some q) : ∃ k, K[p]? = some k ∧ q = (ad p, ce tc ad R I L p k) := by
  unfold wd at h
  rw [List.getElem?_mapIdx] at h
  cases hk : K[p]? with
  | none => rw [hk] at h; cases h
  | some k => rw [hk] at h; exact ⟨k, rfl, (Option.some.inj h).symm⟩
theorem ce_agr {tc : Nat → ClassId} {ad ad' : Nat → Nat} {R : MR} {I : MI} {L : ML} {p : Nat} (h : ∀ j r, R p j = some r → ad' r = ad r) (k : Nat × Nat) : ce tc ad' R I L p k = ce tc ad R I L p k := by
  have hm : ∀ j, (R p j).map ad' = (R p j).map ad := fun j => by
    cases hr : R p j with
    | none => rfl
    | some r => show some (ad' r) = some (ad r); rw [h j r hr]
  simp only [ce, fvs, fv, hm]
theorem arrV_cg {cI : ClassId} {N : Nat} {f g : Nat → Value} (h : ∀ j, j < N → f j = g j) : arrV cI N f = arrV cI N g := by
  unfold arrV
  have : (fun j : Fin N => f j.val) = (fun j : Fin N => g j.val) := by funext j; exact h j.val j.isLt
  rw [this]
theorem rpN_lt {rm N m : Nat} (hN : okN rm N) (hm : m ≤ 6) {p j r : Nat} (hp : p < N + 7) (h : Rp (RLr N) (Rbr rm N) m p j = some r) : r < N + 7 := by
  unfold Rp at h
  cases hf : ((RLr N).take m).find? (fun e => e.1 == (p, j)) with
  | some e =>
    rw [hf] at h
    have h3 := RLr_mem (List.mem_of_find?_eq_some hf)
    cases h
    omega
  | none =>
    rw [hf] at h
    simp only [Rbr] at h
    split at h
    · rename_i hlt
      have := lR_ltN hN hlt h
      omega
    · split at h
      · omega
      · cases h
theorem rpN_7 {rm N m j : Nat} (hj : j < 12) : Rp (RLr N) (Rbr rm N) m (N + 7) j = some (N + 8 + j) := by
  unfold Rp
  cases hf : ((RLr N).take m).find? (fun e => e.1 == (N + 7, j)) with
  | some e =>
    have h3 := RLr_mem (List.mem_of_find?_eq_some hf)
    have h4 := List.find?_some hf
    have h5 : e.1 = (N + 7, j) := by simpa using h4
    rw [h5] at h3
    have h6 : N + 7 = N := h3.1
    omega
  | none =>
    simp only [Rbr]
    rw [if_neg (by omega), if_pos trivial, if_pos hj]
def ad13 (ad : Nat → Nat) (n h : Nat) : Nat → Nat := fun p => if n ≤ p ∧ p < n + 13 then h + (p - n) else ad p
theorem KR_hi {r i : Nat} (h : 8 ≤ i) (h2 : i < 20) : (KR r)[i]? = some (10, r) := by
  have : i = 8 ∨ i = 9 ∨ i = 10 ∨ i = 11 ∨ i = 12 ∨ i = 13 ∨ i = 14 ∨ i = 15 ∨ i = 16 ∨ i = 17 ∨ i = 18 ∨ i = 19 := by omega
  rcases this with g | g | g | g | g | g | g | g | g | g | g | g <;> (subst g; rfl)
theorem w_mna {G : GT Mm} {cc : ByteArray} {fr lo pc q : Nat} {lv : List (Nat × Value)} {st : List Value} {I : MI} {L : ML} {X : Option Mm} {ad0 : Nat → Nat} {n0 n1 m1 mc ms m c s nL0 N rm r : Nat} {KP : KT} {x : Int32} (hc : Cx G cc RX4 none fr lo) (hX : SXX G ad0 (KP ++ KR r) (RLr N) (Rbr rm N) n0 n1 m1 mc ms (N + 7) m c s) (hRm : gRm G = rmS fr lo mc ms) (hn0 : gnL G = nL0) (hd : decode cc pc = .ok (.multianewarray 66 2, 4)) (hKP : KP.length = N) (hN : okN rm N) (hm : m ≤ 6) (hx0 : ¬ x < 0) (hx : x.toNatClampNeg = r) (hr : r ≤ 5040)
    (hI : ∀ p, N + 7 ≤ p → I p = fun _ => 0) (hc1 : c + 13 ≤ mc) (hs1 : s + 12 + 12 * r ≤ ms) (hol : lv.all (fun q => oknv (N + 7) q.2) = true) (hos : st.all (oknv (N + 7)) = true) (e : q = pc + 4)
    (kk : ∀ G : GT Mm, Cx G cc RX4 none fr lo → SXX G ad0 (KP ++ KR r) (RLr N) (Rbr rm N) n0 n1 m1 mc ms (N + 20) m (c + 13) (s + 12 + 12 * r) → gRm G = rmS fr lo mc ms → gnL G = nL0 → WW G q lv (.ref (N + 7) :: st) I L X) : WW G pc lv (.int x :: .int 12 :: st) I L X := by
  subst e
  intro b hb H locs ls hP hD hS hl
  obtain ⟨hQ, hag, hAe, hKe, hRe, hcl, hsl, hle, hin⟩ := id hX
  have hN9 : N ≤ 89 := by rcases hN with h | h <;> omega
  obtain ⟨u, hal, hov⟩ := hc.2.2.2.2.2.2.2.2.2.2.2.2.2.2.2
  obtain ⟨comp, cA, kA, f1, -, f2, f3, f4⟩ := arrayOverA_spec hov
  obtain ⟨kC, f5, -⟩ := Vm.findClass_spec f1
  have g1 : (gs G).vm.findClass "[I" = some comp := by rw [hal.findClass]; exact f1
  have g4 : (gs G).vm.findClass "[[I" = some cA := by rw [hal.findClass]; exact f4
  obtain ⟨kA', g2, eA⟩ := hal.2.2 _ _ f2
  have g3 : kA'.kind = .array comp (.array .int) := by rw [eA]; exact f3
  have hK := hc.2.2.2.2.2.1.2
  have k10 := hK 0 (gtc G 10, .int) rfl
  have k14 := hK 4 (gtc G 14, .array .int) rfl
  have e10 : comp = gtc G 10 := Option.some.inj (g1.symm.trans k10.2)
  have e14 : cA = gtc G 14 := Option.some.inj (g4.symm.trans k14.2)
  obtain ⟨c9, kC', c0, g7, g5, g6⟩ := Cond.arrayClass_spec (hc.2.2.2.2.1 _ ac_int)
  have e9 : c9 = comp := Option.some.inj (g7.symm.trans g1)
  subst e9
  subst e10
  subst e14
  have ad7 : agrn (N + 7) (gad G) (ad13 (gad G) (N + 7) H.size) := fun p hp => if_neg (by omega)
  refine mn_W (cA := gtc G 14) (comp := gtc G 10) hc.1 hc.2.1 hc.2.2.2.1 (hc.2.2.2.2.1 _ cl_X4_66) g4 g2 g3 g5 g6 hd hx0 (by rw [hx]; exact hr) (by rw [hcl, hRm]; exact hc1) (by rw [hsl, hRm, hx]; exact hs1) (fun H1 locs1 l1 z1 o1 w1 r1 => ?_)
  rw [hx] at r1
  have hRl : ∀ p j r', p < N + 7 → gR G p j = some r' → ad13 (gad G) (N + 7) H.size r' = gad G r' := fun p j r' hp h9 => by
    rw [hRe] at h9
    exact ad7 r' (Or.inl (rpN_lt hN hm hp h9))
  have hlen : (KP ++ KR r).length = N + 20 := by rw [List.length_append, hKP]; rfl
  have hgK : ∀ p, p < N + 7 → (gK G)[p]? = (KP ++ KR r)[p]? := fun p hp => by rw [hKe, List.getElem?_take, if_pos hp]
  have h7 : ∀ p k, p < N + 7 → (KP ++ KR r)[p]? = some k → (gwd G I L)[p]? = some (gad G p, ce (gtc G) (gad G) (gR G) I L p k) := fun p k hp h9 => wd_get (by rw [hgK p hp]; exact h9)
  have hsz : (gs G).heap.size ≤ H.size := hS.1
  have hP' : va_P (gD G) vwCl (wd (gtc G) (ad13 (gad G) (N + 7) H.size) ((KP ++ KR r).take (N + 20)) (Rp (RLr N) (Rbr rm N) m) I L) H1 := by
    intro p q0 h9
    obtain ⟨k, hk, rfl⟩ := wd_inv h9
    rw [List.getElem?_take] at hk
    by_cases hp20 : p < N + 20
    · rw [if_pos hp20] at hk
      by_cases hp7 : p < N + 7
      · have h10 := hP p _ (h7 p k hp7 hk)
        have e1 : (ad13 (gad G) (N + 7) H.size p, ce (gtc G) (ad13 (gad G) (N + 7) H.size) (Rp (RLr N) (Rbr rm N) m) I L p k) = (gad G p, ce (gtc G) (gad G) (gR G) I L p k) := by
          rw [ad7 p (Or.inl hp7), ← hRe, ce_agr (fun j r' h11 => hRl p j r' hp7 h11)]
        rw [e1]
        exact h10.kept (o1 _ h10.lt)
      · by_cases hp8 : p = N + 7
        · subst hp8
          rw [List.getElem?_append_right (by omega), hKP, show N + 7 - N = 7 by omega] at hk
          cases hk
          show H1[ad13 (gad G) (N + 7) H.size (N + 7)]? = some (vp_cell (gtc G 14) (12, .inr (.inr (.inr (.inr (fun j => (Rp (RLr N) (Rbr rm N) m (N + 7) j).map (ad13 (gad G) (N + 7) H.size)))))))
          have a1 : ad13 (gad G) (N + 7) H.size (N + 7) = H.size := by
            unfold ad13
            rw [if_pos (by omega)]; omega
          rw [a1, w1, vp_cell_q]
          congr 1
          apply arrV_cg
          intro j hj
          rw [rpN_7 hj]
          have a2 : ad13 (gad G) (N + 7) H.size (N + 8 + j) = H.size + 1 + j := by
            unfold ad13
            rw [if_pos (by omega)]; omega
          show mn_f H.size 12 j = va_rf (some (ad13 (gad G) (N + 7) H.size (N + 8 + j)))
          rw [a2]
          unfold mn_f
          rw [if_pos hj]
        · rw [List.getElem?_append_right (by omega), hKP, KR_hi (by omega) (by omega)] at hk
          cases hk
          show H1[ad13 (gad G) (N + 7) H.size p]? = some (vp_cell (gtc G 10) (r, .inl (I p)))
          have a1 : ad13 (gad G) (N + 7) H.size p = H.size + 1 + (p - (N + 8)) := by
            unfold ad13
            rw [if_pos (by omega)]; omega
          rw [a1, r1 _ (by omega), vp_cell_i, hI p (by omega)]
    · rw [if_neg hp20] at hk
      cases hk
  have hD' : va_D (gA G) (wd (gtc G) (ad13 (gad G) (N + 7) H.size) ((KP ++ KR r).take (N + 20)) (Rp (RLr N) (Rbr rm N) m) I L) := by
    have key : ∀ p q0, (wd (gtc G) (ad13 (gad G) (N + 7) H.size) ((KP ++ KR r).take (N + 20)) (Rp (RLr N) (Rbr rm N) m) I L)[p]? = some q0 → (p < N + 7 ∧ q0.1 = gad G p ∧ gad G p < H.size ∧ gA G (gad G p) ∧ ∃ q1, (gwd G I L)[p]? = some q1 ∧ q1.1 = gad G p) ∨ (N + 7 ≤ p ∧ q0.1 = H.size + (p - (N + 7))) := by
      intro p q0 h9
      obtain ⟨k, hk, rfl⟩ := wd_inv h9
      rw [List.getElem?_take] at hk
      by_cases hp20 : p < N + 20
      · rw [if_pos hp20] at hk
        by_cases hp7 : p < N + 7
        · have h10 := h7 p k hp7 hk
          exact Or.inl ⟨hp7, ad7 p (Or.inl hp7), (hP p _ h10).lt, hD.2 p _ h10, _, h10, rfl⟩
        · refine Or.inr ⟨by omega, ?_⟩
          show ad13 (gad G) (N + 7) H.size p = _
          unfold ad13
          rw [if_pos (by omega)]
      · rw [if_neg hp20] at hk
        cases hk
    refine ⟨fun i j p1 p2 hi hj he => ?_, fun p q0 h9 => ?_⟩
    · rcases key i p1 hi with ⟨a1, a2, a3, a4, q1, a5, a6⟩ | ⟨a1, a2⟩
      · rcases key j p2 hj with ⟨b1, b2, b3, b4, q2, b5, b6⟩ | ⟨b1, b2⟩
        · exact hD.1 i j q1 q2 a5 b5 (by rw [a6, b6, ← a2, ← b2]; exact he)
        · omega
      · rcases key j p2 hj with ⟨b1, b2, b3, b4, q2, b5, b6⟩ | ⟨b1, b2⟩
        · omega
        · omega
    · rcases key p q0 h9 with ⟨a1, a2, a3, a4, -⟩ | ⟨a1, a2⟩
      · rw [a2]; exact a4
      · rw [a2]; exact hc.2.2.2.2.2.2.1 _ (by omega)
  have hS' : va_S (gA G) (gs G).heap H1 locs1 := by
    refine ⟨by omega, fun y h1 h2 => (o1 y (by omega)).trans (hS.2.1 y h1 h2), fun q0 hq0 => ?_⟩
    rcases l1 q0 hq0 with g | g
    · exact hS.2.2 q0 g
    · rw [g]; exact hc.2.2.2.2.2.2.1 _ hsz
  have h9 := kk (gsetS G (ad13 (gad G) (N + 7) H.size) ((KP ++ KR r).take (N + 20)) (Rp (RLr N) (Rbr rm N) m) (c + 13) (s + 12 + 12 * r)) ⟨hc.1, hc.2.1, hc.2.2.1, hc.2.2.2.1, hc.2.2.2.2.1, hc.2.2.2.2.2.1, hc.2.2.2.2.2.2.1, hc.2.2.2.2.2.2.2.1, hc.2.2.2.2.2.2.2.2.1, ⟨hc.2.2.2.2.2.2.2.2.2.1.1, hc.2.2.2.2.2.2.2.2.2.1.2.1, by show c + 13 ≤ (gRm G).cells; rw [hRm]; exact hc1, by show s + 12 + 12 * r ≤ (gRm G).slots; rw [hRm]; exact hs1⟩, hc.2.2.2.2.2.2.2.2.2.2.agrn ad7⟩
    ⟨hQ, fun p hp => (ad7 p (by omega)).trans (hag p hp), hAe, rfl, rfl, rfl, rfl, by omega, hin⟩ hRm hn0 b hb H1 locs1 ls hP' hD' hS' (by show lv_has ls (gnL G) (trl (ad13 (gad G) (N + 7) H.size) lv); rw [trl_agrn ad7 hol]; exact hl)
  have ee : trs (ad13 (gad G) (N + 7) H.size) (.ref (N + 7) :: st) = .ref H.size :: trs (gad G) st := by
    show tr _ _ :: trs (ad13 (gad G) (N + 7) H.size) st = _
    rw [trs_agrn ad7 hos]
    have a1 : ad13 (gad G) (N + 7) H.size (N + 7) = H.size := by
      unfold ad13
      rw [if_pos (by omega)]; omega
    show Value.ref (ad13 (gad G) (N + 7) H.size (N + 7)) :: _ = _
    rw [a1]
  have h10 : W (gp G) (gl G) (ge G) (gRm G) (gs G) (gm G) (ga G) (gbel G) (gme G) (gc G) H1 locs1 (c + 13) (s + 12 + 12 * r) (gQ G b) (F0 (gm G) (pc + 4) ls (trs (ad13 (gad G) (N + 7) H.size) (.ref (N + 7) :: st))) := h9
  rw [ee] at h10
  rw [hcl, hsl, hx]
  exact h10
