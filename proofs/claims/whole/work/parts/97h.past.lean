/-! The past -/
section PA
variable {n m rm : Nat} {mv : Nat → Nat → Nat} {st : Nat → Nat} {I : MI} {L : ML}
def OTc (I : MI) (L : ML) (n kp : Nat) (pm : Nat → Nat) (pmv : Nat → Nat → Nat → Nat) (pst : Nat → Nat → Nat) : Prop := I 37 0 = nI kp ∧ ∀ i, i < kp → I 40 i = nI (pm i) ∧ L 39 i = tn n (pst i) ∧ (∀ t, t < pm i → L 41 (6 * i + t) = tn n (pmv i t))
def OTr (I : MI) (kp : Nat) (pm : Nat → Nat) (pmv : Nat → Nat → Nat → Nat) (pst : Nat → Nat → Nat) : Prop := I 43 3 = nI kp ∧ ∀ i, i < kp → I 45 (71 * i) = nI (pm i) ∧ Row I 45 (71 * i + 1) (pst i) ∧ (∀ t, t < pm i → Row I 45 (71 * i + 11 + 10 * t) (pmv i t))
def OTo (n kp : Nat) (pm : Nat → Nat) (pmv : Nat → Nat → Nat → Nat) (pst : Nat → Nat → Nat) : Prop := kp ≤ 12 ∧ ∀ i, i < kp → OKm n (pm i) (pmv i) (pst i)
theorem OT_s (h : OT I L n) : ∃ kp pm pmv pst, OTo n kp pm pmv pst ∧ OTc I L n kp pm pmv pst ∧ OTr I kp pm pmv pst := by
  obtain ⟨kp, pm, pmv, pst, a1, a2, a3, a4⟩ := h
  exact ⟨kp, pm, pmv, pst, ⟨a1, fun i hi => (a4 i hi).1⟩, ⟨a2, fun i hi => ⟨(a4 i hi).2.1, (a4 i hi).2.2.1, (a4 i hi).2.2.2.1⟩⟩, ⟨a3, fun i hi => (a4 i hi).2.2.2.2⟩⟩
theorem OT_m {kp : Nat} {pm : Nat → Nat} {pmv : Nat → Nat → Nat → Nat} {pst : Nat → Nat → Nat} (h : OTo n kp pm pmv pst) (hc : OTc I L n kp pm pmv pst) (hr : OTr I kp pm pmv pst) : OT I L n := ⟨kp, pm, pmv, pst, h.1, hc.1, hr.1, fun i hi => ⟨h.2 i hi, (hc.2 i hi).1, (hc.2 i hi).2.1, (hc.2 i hi).2.2, hr.2 i hi⟩⟩
theorem OTc.fr {I' : MI} {L' : ML} {kp : Nat} {pm : Nat → Nat} {pmv : Nat → Nat → Nat → Nat} {pst : Nat → Nat → Nat} (h : OTc I L n kp pm pmv pst) (h37 : I' 37 0 = I 37 0) (h40 : I' 40 = I 40) (h39 : L' 39 = L 39) (h41 : L' 41 = L 41) : OTc I' L' n kp pm pmv pst := by
  unfold OTc at h ⊢
  rw [h37, h40, h39, h41]; exact h
theorem OTr.fr {I' : MI} {kp : Nat} {pm : Nat → Nat} {pmv : Nat → Nat → Nat → Nat} {pst : Nat → Nat → Nat} (h : OTr I kp pm pmv pst) (h43 : I' 43 3 = I 43 3) (h45 : I' 45 = I 45) : OTr I' kp pm pmv pst := ⟨by rw [h43]; exact h.1, fun i hi => ⟨by rw [h45]; exact (h.2 i hi).1, Row_of h45 (h.2 i hi).2.1, fun t ht => Row_of h45 ((h.2 i hi).2.2 t ht)⟩⟩
def nx1 {α : Type} (k c : Nat) (f : Nat → α) (a : α) : Nat → α := fun i => if i = k then a else f (i + c)
theorem nx1_k {α : Type} {k c : Nat} {f : Nat → α} {a : α} : nx1 k c f a k = a := if_pos rfl
theorem nx1_n {α : Type} {k c i : Nat} {f : Nat → α} {a : α} (h : i ≠ k) : nx1 k c f a i = f (i + c) := if_neg h
theorem OTo_n {kp k c : Nat} {pm : Nat → Nat} {pmv : Nat → Nat → Nat → Nat} {pst : Nat → Nat → Nat} (hO : OKm n m mv st) (h : OTo n kp pm pmv pst) (hk : (kp < 12 ∧ c = 0 ∧ k = kp) ∨ (kp = 12 ∧ c = 1 ∧ k = 11)) : OTo n (k + 1) (nx1 k c pm m) (nx1 k c pmv mv) (nx1 k c pst st) := by
  refine ⟨by omega, fun i hi => ?_⟩
  by_cases e1 : i = k
  · subst e1; rw [nx1_k, nx1_k, nx1_k]; exact hO
  · rw [nx1_n e1, nx1_n e1, nx1_n e1]; exact h.2 _ (by omega)
theorem keepA {k : Nat} {pm : Nat → Nat} {pmv : Nat → Nat → Nat → Nat} {pst : Nat → Nat → Nat} (hm : m ≤ 6) (hk : k < 12) (h7 : ∀ t, t < m → L 7 t = tn n (mv t)) (hp : ∀ i, i < k → pm i ≤ 6) (h : OTc I L n k pm pmv pst) : ∃ I' L', (chk (inb (I 37 0) 12) (bnd (up2 L 39 (ix (I 37 0)) (tn n st)) (fun L_4 => chk (inb (I 37 0) 12) (bnd (up2 I 40 (ix (I 37 0)) (nI m)) (fun I_5 => f_X3_keep_37 7 I_5 (fun (L_10 : ML) => bnd (up2 I_5 37 0 ((I_5 37 0) + 1)) (fun I_11 => some (I_11, L_10))) FU 0 L_4))))) = some (I', L') ∧ OTc I' L' n (k + 1) (nx1 k 0 pm m) (nx1 k 0 pmv mv) (nx1 k 0 pst st) ∧ (∀ p, p ≠ 37 → p ≠ 40 → I' p = I p) ∧ (∀ p, p ≠ 39 → p ≠ 41 → L' p = L p) := by
  obtain ⟨h1, h2⟩ := h
  rw [h1, q_chk (by omega) (by decide), bnd_eq, q_chk (by omega) (by decide), bnd_eq, q_ix (by omega)]
  generalize hk0 : (fun (L_10 : ML) => bnd (up2 (up2 I 40 k (nI m)) 37 0 ((up2 I 40 k (nI m) 37 0) + 1)) (fun I_11 => some (I_11, L_10))) = k0
  have e37 : up2 I 40 k (nI m) 37 0 = nI k := by rw [up2_ne (by decide)]; exact h1
  have key : ∃ M, f_X3_keep_37 7 (up2 I 40 k (nI m)) k0 FU 0 (up2 L 39 k (tn n st)) = k0 M ∧ (∀ p, p ≠ 41 → M p = up2 L 39 k (tn n st) p) ∧ (∀ j, j < 6 * k → M 41 j = L 41 j) ∧ ∀ t, t < 6 → M 41 (6 * k + t) = L 7 t := by
    have := loop0 (fun fu (z : Int32 × ML) => f_X3_keep_37 7 (up2 I 40 k (nI m)) k0 fu z.1 z.2) (fun j z => j ≤ 6 ∧ z.1 = nI j ∧ (∀ p, p ≠ 41 → z.2 p = up2 L 39 k (tn n st) p) ∧ (∀ i, i < 6 * k → z.2 41 i = L 41 i) ∧ ∀ t, t < j → z.2 41 (6 * k + t) = L 7 t) (fun o => ∃ M, o = k0 M ∧ (∀ p, p ≠ 41 → M p = up2 L 39 k (tn n st) p) ∧ (∀ j, j < 6 * k → M 41 j = L 41 j) ∧ ∀ t, t < 6 → M 41 (6 * k + t) = L 7 t) 6 (by decide) (nI 0, up2 L 39 k (tn n st)) ⟨by decide, rfl, fun _ _ => rfl, fun i hi => by dsimp only; rw [up2_ne (by decide)], fun t ht => by omega⟩
      (fun fu j z hj hP => by
        obtain ⟨z1, M⟩ := z
        obtain ⟨_, p1, p2, p3, p4⟩ := hP
        dsimp only at p1 p2 p3 p4 ⊢
        subst p1
        rw [f_X3_keep_37, show (6 : Int32) = nI 6 from rfl, ifc (q_le (by decide) (by omega))]
        by_cases c1 : 6 ≤ j
        · left
          rw [if_pos c1]
          exact ⟨M, rfl, p2, p3, fun t ht => p4 t (by omega)⟩
        · right
          have e7 : M 7 j = L 7 j := by rw [p2 7 (by decide), up2_ne (by decide)]
          refine ⟨by omega, (nI (j + 1), up2 M 41 (6 * k + j) (L 7 j)), ?_, by omega, rfl, fun p hp => ?_, fun i hi => ?_, fun t ht => ?_⟩
          · rw [if_neg c1, ifc (q_le (by decide) (by omega)), if_neg c1, q_chk (by omega) (by decide), e37, show nI k * nI 6 + nI j = nI (6 * k + j) by rw [pk_mul, nI_add, Nat.mul_comm], q_chk (by omega) (by decide), bnd_eq, bnd_eq, q_ix (by omega), q_ix (by omega), e7, nI_1]
          · dsimp only; rw [up2_ne hp]; exact p2 p hp
          · dsimp only; rw [up2_n (by omega)]; exact p3 i hi
          · dsimp only
            by_cases e1 : t = j
            · rw [e1, up2_s]
            · rw [up2_n (by omega)]; exact p4 t (by omega))
    rw [nI_0] at this
    exact this
  obtain ⟨M, k1, k2, k3, k4⟩ := key
  refine ⟨up2 (up2 I 40 k (nI m)) 37 0 (nI (k + 1)), M, ?_, ⟨up2_s, fun i hi => ?_⟩, fun p h1 h2 => by rw [up2_ne h1, up2_ne h2], fun p h1 h2 => by rw [k2 p h2, up2_ne h1]⟩
  · rw [k1, ← hk0]
    dsimp only
    rw [bnd_eq, e37, nI_1]
  · rw [up2_ne (show 40 ≠ 37 by decide), k2 39 (by decide)]
    by_cases e1 : i = k
    · subst e1
      rw [nx1_k, nx1_k, nx1_k, up2_s, up2_s]
      exact ⟨rfl, rfl, fun t ht => by rw [k4 t (by omega)]; exact h7 t ht⟩
    · obtain ⟨a1, a2, a3⟩ := h2 i (by omega)
      have a0 := hp i (by omega)
      rw [nx1_n e1, nx1_n e1, nx1_n e1, up2_n e1, up2_n e1]
      exact ⟨a1, a2, fun t ht => by
        have ht : t < pm i := ht
        rw [k3 _ (by omega)]; exact a3 t ht⟩
theorem keep_eq {kp k c : Nat} {pm : Nat → Nat} {pmv : Nat → Nat → Nat → Nat} {pst : Nat → Nat → Nat} (hO : OKm n m mv st) (h7 : ∀ t, t < m → L 7 t = tn n (mv t)) (ho : OTo n kp pm pmv pst) (h : OTc I L n kp pm pmv pst) (hk : (kp < 12 ∧ c = 0 ∧ k = kp) ∨ (kp = 12 ∧ c = 1 ∧ k = 11)) : ∃ I' L', f_X3_keep (tn n st) 7 (nI m) I L = some (I', L') ∧ OTc I' L' n (k + 1) (nx1 k c pm m) (nx1 k c pmv mv) (nx1 k c pst st) ∧ (∀ p, p ≠ 37 → p ≠ 40 → I' p = I p) ∧ (∀ p, p ≠ 39 → p ≠ 41 → L' p = L p) := by
  unfold f_X3_keep
  rw [bnd_eq]
  dsimp only
  rcases hk with ⟨h1, h2, h3⟩ | ⟨h1, h2, h3⟩
  · subst h2 h3
    rw [if_pos (show I 37 0 < 12 by rw [h.1, show (12 : Int32) = nI 12 from rfl, q_lt (by omega) (by decide)]; exact h1)]
    exact keepA hO.2.1 h1 h7 (fun i hi => (ho.2 i hi).2.1) h
  · subst h1 h2 h3
    rw [if_neg (show ¬ I 37 0 < 12 by rw [h.1]; decide)]
    have lo : f_X3_loseOldest I L = some (up2 (acopy I 40 40 1 0 11) 37 0 11, acopy (acopy L 39 39 1 0 11) 41 41 6 0 66) := by
      unfold f_X3_loseOldest
      rw [chk_pos (by decide), bnd_eq, chk_pos (by decide), bnd_eq, chk_pos (by decide), bnd_eq, bnd_eq]
    rw [ob lo]
    have a40 : ∀ i, i < 11 → acopy I 40 40 1 0 11 40 i = I 40 (i + 1) := fun i hi => by
      show va_cpy (I 40) (I 40) 1 0 11 i = _
      unfold va_cpy
      rw [if_pos (by omega), show 1 + (i - 0) = i + 1 by omega]
    have a39 : ∀ i, i < 11 → acopy L 39 39 1 0 11 39 i = L 39 (i + 1) := fun i hi => by
      show va_cpy (L 39) (L 39) 1 0 11 i = _
      unfold va_cpy
      rw [if_pos (by omega), show 1 + (i - 0) = i + 1 by omega]
    have a41 : ∀ i, i < 66 → acopy (acopy L 39 39 1 0 11) 41 41 6 0 66 41 i = L 41 (i + 6) := fun i hi => by
      show va_cpy (L 41) (L 41) 6 0 66 i = _
      unfold va_cpy
      rw [if_pos (by omega), show 6 + (i - 0) = i + 6 by omega]
    have n1 : ∀ p, p ≠ 37 → p ≠ 40 → up2 (acopy I 40 40 1 0 11) 37 0 11 p = I p := fun p h1 h2 => by rw [up2_ne h1]; exact if_neg h2
    have n2 : ∀ p, p ≠ 39 → p ≠ 41 → acopy (acopy L 39 39 1 0 11) 41 41 6 0 66 p = L p := fun p h1 h2 => (if_neg h2).trans (if_neg h1)
    have h11 : OTc (up2 (acopy I 40 40 1 0 11) 37 0 11) (acopy (acopy L 39 39 1 0 11) 41 41 6 0 66) n 11 (fun i => pm (i + 1)) (fun i => pmv (i + 1)) (fun i => pst (i + 1)) := by
      refine ⟨up2_s, fun i hi => ?_⟩
      obtain ⟨b1, b2, b3⟩ := h.2 (i + 1) (by omega)
      have b0 := (ho.2 (i + 1) (by omega)).2.1
      refine ⟨by rw [up2_ne (by decide), a40 i hi]; exact b1, ?_, fun t ht => ?_⟩
      · show acopy L 39 39 1 0 11 39 i = _
        rw [a39 i hi]; exact b2
      · have ht : t < pm (i + 1) := ht
        rw [a41 _ (by omega), show 6 * i + t + 6 = 6 * (i + 1) + t by omega]; exact b3 t ht
    obtain ⟨I', L', c1, c2, c3, c4⟩ := keepA (st := st) hO.2.1 (by decide) (fun t ht => by rw [n2 7 (by decide) (by decide)]; exact h7 t ht) (fun i hi => (ho.2 (i + 1) (by omega)).2.1) h11
    exact ⟨I', L', c1, c2, fun p h1 h2 => (c3 p h1 h2).trans (n1 p h1 h2), fun p h1 h2 => (c4 p h1 h2).trans (n2 p h1 h2)⟩
theorem Row_sl {a b x y : Nat} {p : Nat → Nat} {I' : MI} (h : ∀ j, j < 10 → I' b (y + j) = I a (x + j)) (hr : Row I a x p) : Row I' b y p := fun k hk => by rw [h k hk]; exact hr k hk
theorem rememA {k : Nat} {pm : Nat → Nat} {pmv : Nat → Nat → Nat → Nat} {pst : Nat → Nat → Nat} (hm : m ≤ 6) (hk : k < 12) (hN : Nw I m mv st) (hp : ∀ i, i < k → pm i ≤ 6) (h : OTr I k pm pmv pst) : ∃ I', f_X8_remembers_51 L (fun (I_12 : MI) => bnd (up2 I_12 43 3 ((I_12 43 3) + 1)) (fun I_13 => some (I_13, L))) FU 0 I = some (I', L) ∧ OTr I' (k + 1) (nx1 k 0 pm m) (nx1 k 0 pmv mv) (nx1 k 0 pst st) ∧ (∀ p, p ≠ 43 → p ≠ 45 → I' p = I p) ∧ (∀ j, j ≠ 3 → I' 43 j = I 43 j) := by
  obtain ⟨h1, h2⟩ := h
  generalize hk0 : (fun (I_12 : MI) => bnd (up2 I_12 43 3 ((I_12 43 3) + 1)) (fun I_13 => some (I_13, L))) = k0
  have key : ∃ K, f_X8_remembers_51 L k0 FU 0 I = k0 K ∧ (∀ p, p ≠ 45 → K p = I p) ∧ (∀ j, j < 71 * k → K 45 j = I 45 j) ∧ ∀ t, t < 71 → K 45 (71 * k + t) = I 44 t := by
    have := loop0 (fun fu (z : Int32 × MI) => f_X8_remembers_51 L k0 fu z.1 z.2) (fun j z => j ≤ 71 ∧ z.1 = nI j ∧ (∀ p, p ≠ 45 → z.2 p = I p) ∧ (∀ i, i < 71 * k → z.2 45 i = I 45 i) ∧ ∀ t, t < j → z.2 45 (71 * k + t) = I 44 t) (fun o => ∃ K, o = k0 K ∧ (∀ p, p ≠ 45 → K p = I p) ∧ (∀ j, j < 71 * k → K 45 j = I 45 j) ∧ ∀ t, t < 71 → K 45 (71 * k + t) = I 44 t) 71 (by decide) (nI 0, I) ⟨by decide, rfl, fun _ _ => rfl, fun i hi => rfl, fun t ht => by omega⟩
      (fun fu j z hj hP => by
        obtain ⟨z1, K⟩ := z
        obtain ⟨_, p1, p2, p3, p4⟩ := hP
        dsimp only at p1 p2 p3 p4 ⊢
        subst p1
        have e43 : K 43 3 = nI k := by rw [p2 43 (by decide)]; exact h1
        rw [f_X8_remembers_51, show (71 : Int32) = nI 71 from rfl, ifc (q_le (by decide) (by omega))]
        by_cases c1 : 71 ≤ j
        · left
          rw [if_pos c1]
          exact ⟨K, rfl, p2, p3, fun t ht => p4 t (by omega)⟩
        · right
          have e44 : K 44 j = I 44 j := by rw [p2 44 (by decide)]
          refine ⟨by omega, (nI (j + 1), up2 K 45 (71 * k + j) (I 44 j)), ?_, by omega, rfl, fun p hp => ?_, fun i hi => ?_, fun t ht => ?_⟩
          · rw [if_neg c1, q_chk (by omega) (by decide), e43, pk_mul, nI_add, q_chk (by omega) (by decide), bnd_eq, bnd_eq, q_ix (by omega), q_ix (by omega), e44, nI_1]
          · dsimp only; rw [up2_ne hp]; exact p2 p hp
          · dsimp only; rw [up2_n (by omega)]; exact p3 i hi
          · dsimp only
            by_cases e1 : t = j
            · rw [e1, up2_s]
            · rw [up2_n (by omega)]; exact p4 t (by omega))
    rw [nI_0] at this
    exact this
  obtain ⟨K, k1, k2, k3, k4⟩ := key
  have e43 : K 43 3 = nI k := by rw [k2 43 (by decide)]; exact h1
  refine ⟨up2 K 43 3 (nI (k + 1)), ?_, ⟨up2_s, fun i hi => ?_⟩, fun p h1 h2 => by rw [up2_ne h1, k2 p h2], fun j hj => by rw [up2_n hj, k2 43 (by decide)]⟩
  · rw [k1, ← hk0]
    dsimp only
    rw [bnd_eq, e43, nI_1]
  · have e45 : up2 K 43 3 (nI (k + 1)) 45 = K 45 := up2_ne (by decide)
    by_cases e1 : i = k
    · subst e1
      rw [nx1_k, nx1_k, nx1_k]
      refine ⟨by rw [e45]; have := k4 0 (by decide); rw [Nat.add_zero] at this; rw [this]; exact hN.1, Row_of e45 (Row_sl (x := 1) (fun j hj => by rw [Nat.add_assoc]; exact k4 (1 + j) (by omega)) hN.2.2.2), fun t ht => Row_of e45 (Row_sl (x := 11 + 10 * t) (fun j hj => ?_) (hN.2.2.1 t ht))⟩
      rw [show 71 * i + 11 + 10 * t + j = 71 * i + (11 + 10 * t + j) by omega]; exact k4 _ (by omega)
    · obtain ⟨a1, a2, a3⟩ := h2 i (by omega)
      have a0 := hp i (by omega)
      rw [nx1_n e1, nx1_n e1, nx1_n e1]
      refine ⟨by rw [e45, k3 _ (by omega)]; exact a1, Row_of e45 (Row_sl (fun j hj => k3 _ (by omega)) a2), fun t ht => Row_of e45 (Row_sl (fun j hj => k3 _ ?_) (a3 t ht))⟩
      have ht : t < pm i := ht
      omega
theorem remembers_eq {kp k c : Nat} {pm : Nat → Nat} {pmv : Nat → Nat → Nat → Nat} {pst : Nat → Nat → Nat} (hO : OKm n m mv st) (hN : Nw I m mv st) (ho : OTo n kp pm pmv pst) (h : OTr I kp pm pmv pst) (hk : (kp < 12 ∧ c = 0 ∧ k = kp) ∨ (kp = 12 ∧ c = 1 ∧ k = 11)) : ∃ I', f_X8_remembers I L = some (I', L) ∧ OTr I' (k + 1) (nx1 k c pm m) (nx1 k c pmv mv) (nx1 k c pst st) ∧ (∀ p, p ≠ 43 → p ≠ 45 → I' p = I p) ∧ (∀ j, j ≠ 3 → I' 43 j = I 43 j) := by
  unfold f_X8_remembers
  rw [bnd_eq]
  try dsimp only
  rcases hk with ⟨h1, h2, h3⟩ | ⟨h1, h2, h3⟩
  · subst h2 h3
    rw [if_neg (show ¬ I 43 3 = 12 by rw [h.1, show (12 : Int32) = nI 12 from rfl, q_eq (by omega) (by decide)]; omega)]
    exact rememA hO.2.1 h1 hN (fun i hi => (ho.2 i hi).2.1) h
  · subst h1 h2 h3
    rw [if_pos (show I 43 3 = 12 from h.1)]
    generalize hk0 : (fun (I_5 : MI) => bnd (up2 I_5 43 3 ((I_5 43 3) - 1)) (fun I_6 => f_X8_remembers_51 L (fun (I_12 : MI) => bnd (up2 I_12 43 3 ((I_12 43 3) + 1)) (fun I_13 => some (I_13, L))) FU 0 I_6)) = k0
    have key : ∃ K, f_X8_remembers_11 L k0 FU 0 I = k0 K ∧ (∀ p, p ≠ 45 → K p = I p) ∧ (∀ j, j < 781 → K 45 j = I 45 (j + 71)) := by
      have := loop0 (fun fu (z : Int32 × MI) => f_X8_remembers_11 L k0 fu z.1 z.2) (fun j z => j ≤ 781 ∧ z.1 = nI j ∧ (∀ p, p ≠ 45 → z.2 p = I p) ∧ (∀ i, i < j → z.2 45 i = I 45 (i + 71)) ∧ ∀ i, j ≤ i → z.2 45 i = I 45 i) (fun o => ∃ K, o = k0 K ∧ (∀ p, p ≠ 45 → K p = I p) ∧ (∀ j, j < 781 → K 45 j = I 45 (j + 71))) 781 (by decide) (nI 0, I) ⟨by decide, rfl, fun _ _ => rfl, fun i hi => by omega, fun _ _ => rfl⟩
        (fun fu j z hj hP => by
          obtain ⟨z1, K⟩ := z
          obtain ⟨_, p1, p2, p3, p4⟩ := hP
          dsimp only at p1 p2 p3 p4 ⊢
          subst p1
          rw [f_X8_remembers_11, show (781 : Int32) = nI 781 from rfl, ifc (q_le (by decide) (by omega))]
          by_cases c1 : 781 ≤ j
          · left
            rw [if_pos c1]
            exact ⟨K, rfl, p2, fun t ht => p3 t (by omega)⟩
          · right
            refine ⟨by omega, (nI (j + 1), up2 K 45 j (I 45 (j + 71))), ?_, by omega, rfl, fun p hp => ?_, fun i hi => ?_, fun i hi => ?_⟩
            · rw [if_neg c1, show (71 : Int32) = nI 71 from rfl, nI_add, q_chk (by omega) (by decide), q_chk (by omega) (by decide), bnd_eq, bnd_eq, q_ix (by omega), q_ix (by omega), p4 (j + 71) (by omega), nI_1]
            · dsimp only; rw [up2_ne hp]; exact p2 p hp
            · dsimp only
              by_cases e1 : i = j
              · rw [e1, up2_s]
              · rw [up2_n e1]; exact p3 i (by omega)
            · dsimp only
              rw [up2_n (by omega)]; exact p4 i (by omega))
      rw [nI_0] at this
      exact this
    obtain ⟨K, k1, k2, k3⟩ := key
    have e43 : K 43 3 = nI 12 := by rw [k2 43 (by decide)]; exact h.1
    have e45 : up2 K 43 3 (nI 11) 45 = K 45 := up2_ne (by decide)
    have h11 : OTr (up2 K 43 3 (nI 11)) 11 (fun i => pm (i + 1)) (fun i => pmv (i + 1)) (fun i => pst (i + 1)) := by
      refine ⟨up2_s, fun i hi => ?_⟩
      obtain ⟨b1, b2, b3⟩ := h.2 (i + 1) (by omega)
      have b0 := (ho.2 (i + 1) (by omega)).2.1
      refine ⟨by rw [e45, k3 _ (by omega), show 71 * i + 71 = 71 * (i + 1) by omega]; exact b1, Row_of e45 (Row_sl (fun j hj => ?_) b2), fun t ht => Row_of e45 (Row_sl (fun j hj => ?_) (b3 t ht))⟩
      · rw [k3 _ (by omega), show 71 * i + 1 + j + 71 = 71 * (i + 1) + 1 + j by omega]
      · have ht : t < pm (i + 1) := ht
        rw [k3 _ (by omega), show 71 * i + 11 + 10 * t + j + 71 = 71 * (i + 1) + 11 + 10 * t + j by omega]
    obtain ⟨I', c1, c2, c3, c4⟩ := rememA (L := L) (I := up2 K 43 3 (nI 11)) hO.2.1 (by decide) (hN.fr (by rw [up2_ne (by decide), k2 44 (by decide)])) (fun i hi => (ho.2 (i + 1) (by omega)).2.1) h11
    refine ⟨I', ?_, c2, fun p h1 h2 => by rw [c3 p h1 h2, up2_ne h1, k2 p h2], fun j hj => by rw [c4 j hj, up2_n hj, k2 43 (by decide)]⟩
    rw [k1, ← hk0]
    dsimp only
    rw [bnd_eq, e43, show nI 12 - 1 = nI 11 from rfl]
    exact c1
end PA
