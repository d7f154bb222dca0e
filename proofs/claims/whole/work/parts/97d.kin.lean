/-! Classes -/
section KI
variable {n m N rm : Nat} {mv : Nat → Nat → Nat} {st : Nat → Nat} {I : MI} {L : ML} {e : Nat → Nat → Nat} {G : PS}
theorem cj_cp {a b c : Nat → Nat} (hn : n ≤ 10) (hb : IsP n b) (hc : IsP n c) : cj a (cp b c) = cj (cj a b) c := by
  unfold cj
  rw [iv_cpp hn hb hc]
  simp only [cp_as]
theorem cj_id {a : Nat → Nat} : cj a idp = a := by
  unfold cj
  have : iv idp = idp := by
    funext j
    have := iv_l (Nat.le_refl 10) (IsP_id 10) j
    exact this
  rw [this, id_cp, cp_id]
theorem Cj_r (hG : Sub n G) (a : Nat → Nat) : Cj G a a := ⟨idp, hG.2.1, cj_id.symm⟩
theorem Cj_t {a b c : Nat → Nat} (hn : n ≤ 10) (hG : Sub n G) (h : Cj G a b) (g : Cj G b c) : Cj G a c := by
  obtain ⟨x, x1, x2⟩ := h
  obtain ⟨y, y1, y2⟩ := g
  exact ⟨cp x y, hG.2.2.1 _ _ x1 y1, by rw [cj_cp hn (hG.1 _ x1) (hG.1 _ y1), ← x2, ← y2]⟩
theorem Cj_s {a b : Nat → Nat} (hn : n ≤ 10) (hG : Sub n G) (h : Cj G a b) : Cj G b a := by
  obtain ⟨x, x1, x2⟩ := h
  refine ⟨iv x, hG.2.2.2 _ x1, ?_⟩
  rw [x2, ← cj_cp hn (hG.1 _ x1) (hG.1 _ (hG.2.2.2 _ x1)), cp_iv hn (hG.1 _ x1), cj_id]
theorem Sub_cj {a b : Nat → Nat} (hG : Sub n G) (ha : G a) (hb : G b) : G (cj a b) := hG.2.2.1 _ _ (hG.2.2.1 _ _ (hG.2.2.2 _ hb) ha) hb
/-- closed under turning by generators: closed under turning -/
theorem Cj_cl {S : PS} {A : (Nat → Nat) → Prop} {a : Nat → Nat} (hn : n ≤ 10) (hS : ∀ s, S s → IsP n s) (h0 : A a) (h : ∀ b s, A b → S s → A (cj b s)) : ∀ b, Cj (Gen n S) a b → A b := by
  intro b ⟨g, g1, g2⟩
  subst g2
  have := Gen_right (M := fun g => IsP n g ∧ A (cj a g)) hn hS ⟨IsP_id n, by rw [cj_id]; exact h0⟩ (fun m s hm hs => ⟨IsP_cp hm.1 (hS s hs), by rw [cj_cp hn hm.1 (hS s hs)]; exact h _ s hm.2 hs⟩) g g1
  exact this.2
/-- the queue of a class -/
def BK (N : Nat) (e : Nat → Nat → Nat) (G : PS) (x : Nat) (l0 : Nat → Int32) (v : Int32) (q : Nat → Nat) (len : Nat) (lab : Nat → Int32) : Prop := (∀ i, i < len → q i < N ∧ lab (q i) = v ∧ l0 (q i) = -1 ∧ Cj G (e x) (e (q i))) ∧ (∀ i j, i < len → j < len → q i = q j → i = j) ∧ (∀ y, y < N → (∃ i, i < len ∧ q i = y) ∨ lab y = l0 y) ∧ ∃ i, i < len ∧ q i = x
theorem cT_tt : ∀ k, cT (fun _ => true) k = k := by
  intro k
  induction k with
  | zero => rfl
  | succ k ih => rw [cT_t rfl, ih]
theorem BK_len {x len : Nat} {l0 lab : Nat → Int32} {v : Int32} {q : Nat → Nat} (h : BK N e G x l0 v q len lab) : len ≤ N := by
  have := cT_bij (P := fun _ => true) (Q := fun _ => true) (n := len) (m := N) q (fun i hi _ => ⟨(h.1 i hi).1, rfl⟩) (fun i j hi hj _ _ g => h.2.1 i j hi hj g)
  rw [cT_tt, cT_tt] at this
  exact this
theorem BK_in {x y len : Nat} {l0 lab : Nat → Int32} {v : Int32} {q : Nat → Nat} (h : BK N e G x l0 v q len lab) (hy : y < N) (hc : l0 y = -1) (hl : lab y ≠ -1) : ∃ i, i < len ∧ q i = y := by
  rcases h.2.2.1 y hy with g | g
  · exact g
  · rw [g] at hl; exact absurd hc hl
theorem BK_add {x y len : Nat} {l0 lab : Nat → Int32} {v : Int32} {q : Nat → Nat} (h : BK N e G x l0 v q len lab) (hv : v ≠ -1) (hy : y < N) (hl : lab y = -1) (hc : Cj G (e x) (e y)) {q' : Nat → Nat} {lab' : Nat → Int32} (hq : q' len = y) (hq2 : ∀ i, i < len → q' i = q i) (hl1 : lab' y = v) (hl2 : ∀ z, z ≠ y → lab' z = lab z) : BK N e G x l0 v q' (len + 1) lab' := by
  have hne : ∀ i, i < len → q i ≠ y := fun i hi g => hv (by rw [← (h.1 i hi).2.1, g]; exact hl)
  have hl0 : l0 y = -1 := by
    rcases h.2.2.1 y hy with ⟨i, hi, g⟩ | g
    · exact absurd g (hne i hi)
    · rw [← g]; exact hl
  refine ⟨fun i hi => ?_, fun i j hi hj g => ?_, fun z hz => ?_, ?_⟩
  · by_cases e1 : i = len
    · subst e1; rw [hq]; exact ⟨hy, hl1, hl0, hc⟩
    · obtain ⟨a1, a2, a3, a4⟩ := h.1 i (by omega)
      rw [hq2 i (by omega)]
      exact ⟨a1, by rw [hl2 _ (hne i (by omega))]; exact a2, a3, a4⟩
  · by_cases e1 : i = len
    · by_cases e2 : j = len
      · omega
      · rw [e1, hq, hq2 j (by omega)] at g; exact absurd g.symm (hne j (by omega))
    · by_cases e2 : j = len
      · rw [e2, hq, hq2 i (by omega)] at g; exact absurd g (hne i (by omega))
      · rw [hq2 i (by omega), hq2 j (by omega)] at g
        exact h.2.1 i j (by omega) (by omega) g
  · by_cases e1 : z = y
    · left; exact ⟨len, by omega, by rw [hq, e1]⟩
    · rcases h.2.2.1 z hz with ⟨i, hi, g⟩ | g
      · left; exact ⟨i, by omega, by rw [hq2 i hi]; exact g⟩
      · right; rw [hl2 z e1]; exact g
  · obtain ⟨i, hi, g⟩ := h.2.2.2
    exact ⟨i, by omega, by rw [hq2 i hi]; exact g⟩
/-- labels of classes, those of the first x done -/
def SI (N : Nat) (e : Nat → Nat → Nat) (G : PS) (x w : Nat) (lab : Nat → Int32) : Prop := (∀ y, y < N → ((lab y = -1 ∧ ∀ z, z < x → ¬ Cj G (e z) (e y)) ∨ (∃ k, k < w ∧ lab y = nI k) ∧ ∃ z, z < x ∧ Cj G (e z) (e y))) ∧ ∀ y z, y < N → z < N → lab y ≠ -1 → (lab y = lab z ↔ Cj G (e y) (e z))
theorem SI_0 {w : Nat} {lab : Nat → Int32} (h : ∀ y, y < N → lab y = -1) : SI N e G 0 w lab := ⟨fun y hy => Or.inl ⟨h y hy, fun z hz => by omega⟩, fun y z hy _ g => absurd (h y hy) g⟩
theorem SI_skip {x w w' : Nat} {lab : Nat → Int32} (hn : n ≤ 10) (hG : Sub n G) (h : SI N e G x w lab) (hw : w ≤ w') (hx : x < N) (hl : lab x ≠ -1) : SI N e G (x + 1) w' lab := by
  obtain ⟨h1, h2⟩ := h
  obtain ⟨z0, z1, z2⟩ : ∃ z, z < x ∧ Cj G (e z) (e x) := by
    rcases h1 x hx with ⟨g, _⟩ | ⟨_, g⟩
    · exact absurd g hl
    · exact g
  refine ⟨fun y hy => ?_, h2⟩
  rcases h1 y hy with ⟨g1, g2⟩ | ⟨⟨k, k1, k2⟩, z, z3, z4⟩
  · refine Or.inl ⟨g1, fun z hz hc => ?_⟩
    by_cases e1 : z = x
    · subst e1; exact g2 z0 z1 (Cj_t hn hG z2 hc)
    · exact g2 z (by omega) hc
  · exact Or.inr ⟨⟨k, by omega, k2⟩, z, by omega, z4⟩
theorem SI_step {x w w' : Nat} {lab lab' : Nat → Int32} (hn : n ≤ 10) (hG : Sub n G) (h : SI N e G x w lab) (hw : w ≤ w') (hw2 : w' < 2 ^ 31) (hx : x < N) (hl : lab x = -1) (h1 : ∀ y, y < N → Cj G (e x) (e y) → lab' y = nI w') (h2 : ∀ y, y < N → ¬ Cj G (e x) (e y) → lab' y = lab y) : SI N e G (x + 1) (w' + 1) lab' := by
  obtain ⟨a1, a2⟩ := h
  have hno : ∀ z, z < x → ¬ Cj G (e z) (e x) := by
    rcases a1 x hx with ⟨_, g⟩ | ⟨⟨k, _, g⟩, _⟩
    · exact g
    · exact absurd (g.symm.trans hl) (by
        intro g2
        obtain ⟨k', k1, k2⟩ : ∃ k', k' < w ∧ nI k' = -1 := ⟨k, by assumption, g2⟩
        exact nI_nm1 (by omega) k2)
  refine ⟨fun y hy => ?_, fun y z hy hz hne => ?_⟩
  · by_cases c : Cj G (e x) (e y)
    · exact Or.inr ⟨⟨w', by omega, h1 y hy c⟩, x, by omega, c⟩
    · rw [h2 y hy c]
      rcases a1 y hy with ⟨g1, g2⟩ | ⟨⟨k, k1, k2⟩, z, z3, z4⟩
      · refine Or.inl ⟨g1, fun z hz hc => ?_⟩
        by_cases e1 : z = x
        · subst e1; exact c hc
        · exact g2 z (by omega) hc
      · exact Or.inr ⟨⟨k, by omega, k2⟩, z, by omega, z4⟩
  · by_cases c : Cj G (e x) (e y)
    · rw [h1 y hy c]
      by_cases c2 : Cj G (e x) (e z)
      · rw [h1 z hz c2]; exact ⟨fun _ => Cj_t hn hG (Cj_s hn hG c) c2, fun _ => rfl⟩
      · rw [h2 z hz c2]
        refine ⟨fun g => ?_, fun g => absurd (Cj_t hn hG c g) c2⟩
        rcases a1 z hz with ⟨g1, _⟩ | ⟨⟨k, k1, k2⟩, _⟩
        · rw [g1] at g; exact absurd g (nI_nm1 hw2)
        · rw [k2] at g
          have := (q_eq hw2 (by omega)).mp g
          omega
    · rw [h2 y hy c] at hne ⊢
      by_cases c2 : Cj G (e x) (e z)
      · rw [h1 z hz c2]
        refine ⟨fun g => ?_, fun g => absurd (Cj_t hn hG c2 (Cj_s hn hG g)) c⟩
        rcases a1 y hy with ⟨g1, _⟩ | ⟨⟨k, k1, k2⟩, _⟩
        · exact absurd g1 hne
        · rw [k2] at g
          have := (q_eq (by omega) hw2).mp g
          omega
      · rw [h2 z hz c2]; exact a2 y z hy hz hne
theorem SI_B {x w : Nat} {lab : Nat → Int32} {B : Nat → Bool} (hw : w < 2 ^ 31) (h : SI N e G x w lab) (hx : x < N) (hB : B x = true ↔ ∀ y, y < x → ¬ Cj G (e y) (e x)) : B x = true ↔ lab x = -1 := by
  rcases h.1 x hx with ⟨g1, g2⟩ | ⟨⟨k, k1, k2⟩, z, z1, z2⟩
  · exact ⟨fun _ => g1, fun _ => hB.mpr g2⟩
  · exact ⟨fun g => absurd z2 (hB.mp g z z1), fun g => absurd (k2.symm.trans g) (nI_nm1 (by omega))⟩
theorem SI_end {w : Nat} {lab : Nat → Int32} (hG : Sub n G) (hw : w < 2 ^ 31) (h : SI N e G N w lab) : ∀ x y, x < N → y < N → (lab x = lab y ↔ Cj G (e x) (e y)) := fun x y hx hy => h.2 x y hx hy (by
  rcases h.1 x hx with ⟨g1, g2⟩ | ⟨⟨k, k1, k2⟩, _⟩
  · exact absurd (Cj_r hG _) (g2 x hx)
  · rw [k2]; exact nI_nm1 (by omega))
/-- a full queue is the class -/
theorem BK_end {x len : Nat} {l0 lab : Nat → Int32} {v : Int32} {q : Nat → Nat} {S : PS} (hn : n ≤ 10) (hS : ∀ s, S s → IsP n s) (hGS : Gen n S = G) (he : EL n G N e) (hx : x < N) (h : BK N e G x l0 v q len lab) (hcl : ∀ i, i < len → ∀ s, S s → ∃ j, j < len ∧ e (q j) = cj (e (q i)) s) : (∀ y, y < N → Cj G (e x) (e y) → lab y = v) ∧ (∀ y, y < N → ¬ Cj G (e x) (e y) → lab y = l0 y) := by
  have key : ∀ b, Cj G (e x) b → ∃ j, j < len ∧ e (q j) = b := by
    rw [← hGS]
    refine Cj_cl hn hS ?_ (fun b s ⟨j, j1, j2⟩ hs => ?_)
    · obtain ⟨i, hi, g⟩ := h.2.2.2
      exact ⟨i, hi, by rw [g]⟩
    · obtain ⟨k, k1, k2⟩ := hcl j j1 s hs
      exact ⟨k, k1, by rw [k2, j2]⟩
  refine ⟨fun y hy hc => ?_, fun y hy hc => ?_⟩
  · obtain ⟨j, j1, j2⟩ := key _ hc
    obtain ⟨a1, a2, _⟩ := h.1 j j1
    rw [← EL_inj he a1 hy j2]; exact a2
  · rcases h.2.2.1 y hy with ⟨i, hi, g⟩ | g
    · exact absurd (by rw [← g]; exact (h.1 i hi).2.2.2) hc
    · exact g
end KI
