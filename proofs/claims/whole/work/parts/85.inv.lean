/-! THE INVARIANT of class and reference -/
def Cj (G : PS) (a b : Nat → Nat) : Prop := ∃ g, G g ∧ b = cj a g
def CmK (n : Nat) (H K : PS) : PS := fun p => ∀ M : PS, Sub n M → (∀ a k, M a → K k → M (cj a k)) → (∀ h k, H h → K k → M (cm h k)) → M p
def DSq (n : Nat) (G : PS) (c : Bool) (H : Nat → PS) : Prop := H 0 = G ∧ ∀ i, H (i + 1) = CmK n (H i) (if c = true then G else H i)
def Shp (L : ML) (n N : Nat) (e : Nat → Nat → Nat) : Prop := ∀ x, x < N → L 73 x = lN (SH (e x) n)
def Srt (I : MI) (G : PS) (N : Nat) (e : Nat → Nat → Nat) : Prop := (∃ B : Nat → Bool, (∀ x, x < N → (B x = true ↔ ∀ y, y < x → ¬ Cj G (e y) (e x))) ∧ I 69 3 = nI (cT B N)) ∧ ∀ x y, x < N → y < N → (I 71 x = I 71 y ↔ Cj G (e x) (e y))
def Dsc (I : MI) (d n : Nat) (G : PS) (c : Bool) : Prop := I d 4 = 0 ∨ (I d 4 = 1 ∧ ∃ (H : Nat → PS) (cnt : Nat) (s : Nat → Nat), DSq n G c H ∧ 1 ≤ cnt ∧ cnt ≤ 31 ∧ I d 3 = nI cnt ∧ (∀ i, i ≤ cnt → En (H i) (s i)) ∧ (∀ i, i < cnt → I (d + 1) i = nI (s i)) ∧ (∀ i, i + 1 < cnt → s (i + 1) < s i) ∧ s cnt = s (cnt - 1))
def Ros (I : MI) (L : ML) (rm n m : Nat) (mv : Nat → Nat → Nat) : Prop := rm ≤ 5040 ∧ (rm ≠ 0 → I 69 0 = nI rm) ∧ (I 6 11 = 0 ∨ (I 6 11 = 1 ∧ rm ≠ 0 ∧ ∃ N e, EL n (Gp n m mv) N e ∧ Lst I L rm n N e ∧ (I 69 13 = 0 ∨ (I 69 13 = 1 ∧ Msd I m mv N e)) ∧ (I 69 14 = 0 ∨ (I 69 14 = 1 ∧ Srt I (Gp n m mv) N e)) ∧ (I 69 15 = 0 ∨ (I 69 15 = 1 ∧ Shp L n N e))))
def Ndd (I : MI) (n m : Nat) (mv : Nat → Nat → Nat) : Prop := ∃ nd, I 6 4 = nI nd ∧ nd < 64 ∧ (∀ t, nd.testBit t = true → t < m) ∧ Gen n (MS mv nd m) = Gp n m mv
def Psz (I : MI) (n m : Nat) (mv : Nat → Nat → Nat) : Prop := ∀ s, s < 2 ^ m → I 29 s = 0 ∨ ∃ N, En (Gen n (MS mv s m)) N ∧ I 29 s = nI N
def CI (I : MI) (L : ML) (rm n m : Nat) (mv : Nat → Nat → Nat) (st : Nat → Nat) : Prop := I 6 0 = nI n ∧ I 6 1 = nI m ∧ (∀ i, i < m → L 7 i = tn n (mv i)) ∧ L 0 5 = tn n st ∧ ChG I L 8 n (Gp n m mv) ∧ Ndd I n m mv ∧ Psz I n m mv ∧ Dsc I 30 n (Gp n m mv) false ∧ Dsc I 33 n (Gp n m mv) true ∧ Ros I L rm n m mv
def OT (I : MI) (L : ML) (n : Nat) : Prop := ∃ (kp : Nat) (pm : Nat → Nat) (pmv : Nat → Nat → Nat → Nat) (pst : Nat → Nat → Nat), kp ≤ 12 ∧ I 37 0 = nI kp ∧ I 43 3 = nI kp ∧ ∀ i, i < kp → OKm n (pm i) (pmv i) (pst i) ∧ I 40 i = nI (pm i) ∧ L 39 i = tn n (pst i) ∧ (∀ t, t < pm i → L 41 (6 * i + t) = tn n (pmv i t)) ∧ I 45 (71 * i) = nI (pm i) ∧ Row I 45 (71 * i + 1) (pst i) ∧ (∀ t, t < pm i → Row I 45 (71 * i + 11 + 10 * t) (pmv i t))
def TP (I : MI) : Prop := ∃ len, len ≤ 400 ∧ I 1 1 = nI len ∧ I 43 30 = nI len ∧ ∀ j, j < len → I 2 j = I 66 j
def OU (I : MI) : Prop := ∃ ol, ol ≤ 32 ∧ I 0 4 = nI ol ∧ I 43 28 = nI ol ∧ ∀ j, j < ol → I 42 j = I 65 j
def FA (I : MI) : Prop := I 1 14 = I 43 31 ∧ I 1 15 = I 43 32
def IV (I : MI) (L : ML) (rm n m : Nat) (mv : Nat → Nat → Nat) (st : Nat → Nat) : Prop := OKm n m mv st ∧ CI I L rm n m mv st ∧ RDY I n m mv st ∧ OT I L n ∧ TP I ∧ OU I ∧ FA I ∧ I 0 6 = I 43 0
def Inv (I : MI) (L : ML) (rm : Nat) : Prop := ∃ n m mv st, IV I L rm n m mv st
section IVf
variable {n m rm : Nat} {mv : Nat → Nat → Nat} {st : Nat → Nat}
theorem ChG.fr {I I' : MI} {L L' : ML} {cb : Nat} {G : PS} (h : ChG I L cb n G) (h0 : I' cb = I cb) (h1 : I' (cb + 1) = I (cb + 1)) (h5 : I' (cb + 5) = I (cb + 5)) (h6 : I' (cb + 6) = I (cb + 6)) (l0 : L' cb = L cb) (l2 : L' (cb + 2) = L (cb + 2)) (l3 : L' (cb + 3) = L (cb + 3)) (l4 : L' (cb + 4) = L (cb + 4)) : ChG I' L' cb n G := by
  obtain ⟨rb, th, mc, mk, tr, ⟨a, b, c⟩, hC, e⟩ := h
  refine ⟨rb, th, mc, mk, tr, ⟨?_, ?_, c⟩, hC, e⟩
  · unfold ChT at a ⊢
    rw [h0, h1, l0, l2, l3]; exact a
  · unfold ChM at b ⊢
    rw [h5, h6, l4]; exact b
theorem Msd.fr {I I' : MI} {N : Nat} {e : Nat → Nat → Nat} (h : Msd I m mv N e) (h2 : I' 69 2 = I 69 2) (h12 : I' 69 12 = I 69 12) (h70 : I' 70 = I 70) (h74 : I' 74 = I 74) (h77 : ∀ s, I' (77 + s) = I (77 + s)) : Msd I' m mv N e := by
  obtain ⟨dp, kk, nx, D, a1, a2, a3, a4, a5, a6, a7, a8, a9⟩ := h
  exact ⟨dp, kk, nx, D, a1, a2, by rw [h12]; exact a3, by rw [h2]; exact a4, a5, a6, fun x hx => by rw [h70]; exact a7 x hx, fun x hx h0 => by rw [h74]; exact a8 x hx h0, fun s x hs hx => by rw [h77]; exact a9 s x hs hx⟩
theorem Ros.fr {I I' : MI} {L L' : ML} (h : Ros I L rm n m mv) (h6 : I' 6 11 = I 6 11) (h69 : ∀ p, 69 ≤ p → I' p = I p) (hl : ∀ p, 69 ≤ p → L' p = L p) : Ros I' L' rm n m mv := by
  obtain ⟨a, b, c⟩ := h
  refine ⟨a, fun g => by rw [h69 69 (by decide)]; exact b g, ?_⟩
  rw [h6]
  refine c.imp id (fun ⟨c1, c2, N, e, c3, c4, c5, c6, c7⟩ => ⟨c1, c2, N, e, c3, ?_, ?_, ?_, ?_⟩)
  · unfold Lst at c4 ⊢
    rw [h69 69 (by decide), hl 72 (by decide)]; exact c4
  · rw [h69 69 (by decide)]
    exact c5.imp id (fun g => ⟨g.1, g.2.fr (by rw [h69 69 (by decide)]) (by rw [h69 69 (by decide)]) (h69 70 (by decide)) (h69 74 (by decide)) (fun s => h69 (77 + s) (by omega))⟩)
  · unfold Srt at c6 ⊢
    rw [h69 69 (by decide), h69 71 (by decide)]; exact c6
  · unfold Shp at c7 ⊢
    rw [h69 69 (by decide), hl 73 (by decide)]; exact c7
theorem Dsc.fr {I I' : MI} {d : Nat} {G : PS} {c : Bool} (h : Dsc I d n G c) (h0 : I' d = I d) (h1 : I' (d + 1) = I (d + 1)) : Dsc I' d n G c := by
  unfold Dsc at h ⊢
  rw [h0, h1]; exact h
theorem CI.fr {I I' : MI} {L : ML} (h : CI I L rm n m mv st) (hI : ∀ p, (6 ≤ p ∧ p ≤ 36) ∨ 69 ≤ p → I' p = I p) : CI I' L rm n m mv st := by
  obtain ⟨a1, a2, a3, a4, a5, a6, a7, a8, a9, a10⟩ := h
  have h6 := hI 6 (by decide)
  refine ⟨by rw [h6]; exact a1, by rw [h6]; exact a2, a3, a4, a5.fr (hI 8 (by decide)) (hI 9 (by decide)) (hI 13 (by decide)) (hI 14 (by decide)) rfl rfl rfl rfl, ?_, ?_, a8.fr (hI 30 (by decide)) (hI 31 (by decide)), a9.fr (hI 33 (by decide)) (hI 34 (by decide)), a10.fr (by rw [h6]) (fun p hp => hI p (Or.inr hp)) (fun _ _ => rfl)⟩
  · unfold Ndd at a6 ⊢; rw [h6]; exact a6
  · unfold Psz at a7 ⊢; rw [hI 29 (by decide)]; exact a7
/-- what a question leaves of the class -/
def CO (I : MI) (L : ML) (I' : MI) (L' : ML) : Prop := (∀ p, p = 1 ∨ p = 2 ∨ p = 37 ∨ p = 40 ∨ p = 42 ∨ (43 ≤ p ∧ p < 69) → I' p = I p) ∧ (∀ j, j ≠ 6 → I' 0 j = I 0 j) ∧ L' 39 = L 39 ∧ L' 41 = L 41
theorem CO.refl {I : MI} {L : ML} : CO I L I L := ⟨fun _ _ => rfl, fun _ _ => rfl, rfl, rfl⟩
theorem CO.trans {I I' I'' : MI} {L L' L'' : ML} (h : CO I L I' L') (g : CO I' L' I'' L'') : CO I L I'' L'' := ⟨fun p hp => (g.1 p hp).trans (h.1 p hp), fun j hj => (g.2.1 j hj).trans (h.2.1 j hj), g.2.2.1.trans h.2.2.1, g.2.2.2.trans h.2.2.2⟩
theorem CO_s {I : MI} {L : ML} {s : Int32} : CO I L (up2 I 0 6 s) L := ⟨fun p hp => up2_ne (by omega), fun j hj => up2_n hj, rfl, rfl⟩
theorem IV_fin {I : MI} {L : ML} (h : IV I L rm n m mv st) {I1 : MI} {L1 : ML} {rm1 : Nat} {I2 : MI} (hC : CI I1 L1 rm1 n m mv st) (hc : CO I L I1 L1) (hq : Q8 I1 I2) (hr : RDY I2 n m mv st) (hs : I1 0 6 = I2 43 0) : Inv I2 L1 rm1 := by
  obtain ⟨b1, b2, b3, b4, b5, b6, b7, b8⟩ := h
  obtain ⟨c1, c2, c3, c4⟩ := hc
  obtain ⟨q1, q2⟩ := hq
  have k : ∀ p, p = 1 ∨ p = 2 ∨ p = 37 ∨ p = 40 ∨ p = 42 ∨ p = 45 ∨ p = 65 ∨ p = 66 → I2 p = I p := fun p hp => (q1 p (by omega)).trans (c1 p (by omega))
  have k43 : ∀ j, j ≠ 0 → j ≠ 1 → j ≠ 20 → j ≠ 24 → I2 43 j = I 43 j := fun j a b c d => by rw [q2 j a b c d, c1 43 (by omega)]
  have k0 : ∀ j, j ≠ 6 → I2 0 j = I 0 j := fun j hj => by rw [q1 0 (by decide)]; exact c2 j hj
  refine ⟨n, m, mv, st, b1, hC.fr (fun p hp => q1 p (by omega)), hr, ?_, ?_, ?_, ?_, by rw [q1 0 (by decide)]; exact hs⟩
  · obtain ⟨kp, pm, pmv, pst, a1, a2, a3, a4⟩ := b4
    refine ⟨kp, pm, pmv, pst, a1, by rw [k 37 (by decide)]; exact a2, by rw [k43 3 (by decide) (by decide) (by decide) (by decide)]; exact a3, fun i hi => ?_⟩
    obtain ⟨d1, d2, d3, d4, d5, d6, d7⟩ := a4 i hi
    exact ⟨d1, by rw [k 40 (by decide)]; exact d2, by rw [c3]; exact d3, fun t ht => by rw [c4]; exact d4 t ht, by rw [k 45 (by decide)]; exact d5, Row_of (k 45 (by decide)) d6, fun t ht => Row_of (k 45 (by decide)) (d7 t ht)⟩
  · obtain ⟨len, a1, a2, a3, a4⟩ := b5
    exact ⟨len, a1, by rw [k 1 (by decide)]; exact a2, by rw [k43 30 (by decide) (by decide) (by decide) (by decide)]; exact a3, fun j hj => by rw [k 2 (by decide), k 66 (by decide)]; exact a4 j hj⟩
  · obtain ⟨ol, a1, a2, a3, a4⟩ := b6
    exact ⟨ol, a1, by rw [k0 4 (by decide)]; exact a2, by rw [k43 28 (by decide) (by decide) (by decide) (by decide)]; exact a3, fun j hj => by rw [k 42 (by decide), k 65 (by decide)]; exact a4 j hj⟩
  · exact ⟨by rw [k 1 (by decide), k43 31 (by decide) (by decide) (by decide) (by decide)]; exact b7.1, by rw [k 1 (by decide), k43 32 (by decide) (by decide) (by decide) (by decide)]; exact b7.2⟩
/-- a question that changes nothing but STATUS -/
theorem IV_q {I : MI} {L : ML} (h : IV I L rm n m mv st) {I2 : MI} {s : Int32} (hq : Q8 (up2 I 0 6 s) I2) (hr : RDY I2 n m mv st) (hs : I2 43 0 = s) : Inv I2 L rm :=
  IV_fin h (h.2.1.fr (fun p hp => up2_ne (by omega))) CO_s hq hr (by rw [up2_s, hs])
/-! Small pieces of the calls -/
def is8 (I : MI) (a : Int32) : MI := up2 (up2 I 43 1 0) 43 0 a
theorem is_eq {I : MI} {L : ML} {a : Int32} : f_X8_is a I L = some (decide (a = 0), is8 I a, L) := by
  unfold f_X8_is is8
  rw [bnd_eq, bnd_eq]
  by_cases h : a = 0
  · rw [if_pos h, decide_eq_true h]
  · rw [if_neg h, decide_eq_false h]
theorem Q8_is {I : MI} {a : Int32} : Q8 I (is8 I a) := ⟨fun p hp => by unfold is8; rw [up2_ne (by omega), up2_ne (by omega)], fun j h0 h1 _ _ => by unfold is8; rw [up2_n h0, up2_n h1]⟩
theorem is8_0 {I : MI} {a : Int32} : is8 I a 43 0 = a := up2_s
theorem RDY_is {I : MI} {a : Int32} (h : RDY I n m mv st) : RDY (is8 I a) n m mv st := h.of (by unfold is8; rw [up2_n (by decide), up2_n (by decide)]) (by unfold is8; rw [up2_n (by decide), up2_n (by decide)]) (by unfold is8; rw [up2_ne (by decide), up2_ne (by decide)]) (by unfold is8; rw [up2_ne (by decide), up2_ne (by decide)]) (by unfold is8; rw [up2_ne (by decide), up2_ne (by decide)])
theorem BD_is {I : MI} {a : Int32} (h : BD I n m mv st) : BD (is8 I a) n m mv st := h.of (by unfold is8; rw [up2_n (by decide), up2_n (by decide)]) (by unfold is8; rw [up2_n (by decide), up2_n (by decide)]) (by unfold is8; rw [up2_ne (by decide), up2_ne (by decide)]) (by unfold is8; rw [up2_ne (by decide), up2_ne (by decide)]) (by unfold is8; rw [up2_ne (by decide), up2_ne (by decide)])
theorem Row_is {I : MI} {a : Int32} {b w : Nat} {p : Nat → Nat} (hb : b ≠ 43) (h : Row I b w p) : Row (is8 I a) b w p := Row_of (by unfold is8; rw [up2_ne hb, up2_ne hb]) h
theorem is8_ne {I : MI} {a : Int32} {p : Nat} (h : p ≠ 43) : is8 I a p = I p := by unfold is8; rw [up2_ne h, up2_ne h]
theorem refuse8_eq {I : MI} {L : ML} {a : Int32} : f_X8_refuse a I L = some (-1, up2 I 43 0 a, L) := rfl
theorem Q8_r {I : MI} {a : Int32} : Q8 I (up2 I 43 0 a) := ⟨fun p hp => up2_ne (by omega), fun j h0 _ _ _ => up2_n h0⟩
theorem RDY_r {I : MI} {a : Int32} (h : RDY I n m mv st) : RDY (up2 I 43 0 a) n m mv st := h.of (up2_n (by decide)) (up2_n (by decide)) (up2_ne (by decide)) (up2_ne (by decide)) (up2_ne (by decide))
theorem RDY_s {I : MI} {s : Int32} (h : RDY I n m mv st) : RDY (up2 I 0 6 s) n m mv st := h.of (by rw [up2_ne (by decide)]) (by rw [up2_ne (by decide)]) (up2_ne (by decide)) (up2_ne (by decide)) (up2_ne (by decide))
theorem tell_eq {I : MI} {L : ML} {r : Int32} : f_X7_tell r I L = some (r, up2 I 0 6 0, L) := rfl
theorem refuse_eq {I : MI} {L : ML} {a : Int32} : f_X7_refuse a I L = some (-1, up2 I 0 6 a, L) := rfl
theorem b2i_f : b2i false = 0 := rfl
theorem b2i_t : ¬ b2i true = 0 := by decide
theorem tellTurn_eq {I : MI} {L : ML} {p : Nat → Nat} (hn : n ≤ 10) (hp : IsP n p) (h6 : I 6 0 = nI n) : f_X7_tellTurn (tn n p) I L = some (lN (NV p n), up2 I 0 6 0, L) := by
  unfold f_X7_tellTurn
  rw [bnd_eq, up2_ne (by decide), h6, ob (toNumber_eq hn hp)]
theorem read_eq {I : MI} {L : ML} {x r : Int64} (h6 : I 6 0 = nI n) (h : f_X6_fromNumber x (nI n) = some r) : f_X7_read x I L = some r := by
  unfold f_X7_read
  rw [h6, ob h]
theorem cmp_tn {p : Nat → Nat} (hn : n ≤ 10) (hp : IsP n p) : 0 ≤ lg_cmp (tn n p) 0 := q_cmpn' _ (E40 hn hp)
theorem cmp_tn' {p : Nat → Nat} (hn : n ≤ 10) (hp : IsP n p) : ¬ lg_cmp (tn n p) 0 < 0 := q_cmpn _ (E40 hn hp)
theorem cmp_m1 : ¬ 0 ≤ lg_cmp (-1) 0 := by decide
theorem cmp_m1' : lg_cmp (-1) 0 < 0 := by decide
theorem m1_l : Int32.toInt64 (-1) = -1 := by decide
end IVf
