/-! Blocks: what both programs come to -/
section BL
variable {n m : Nat} {mv : Nat → Nat → Nat}
def Blk (m : Nat) (mv : Nat → Nat → Nat) (a b x y : Nat) : Prop := ∀ E : Nat → Nat → Prop, (∀ x, E x x) → (∀ x y, E x y → E y x) → (∀ x y z, E x y → E y z → E x z) → E a b → (∀ j x y, j < m → E x y → E (mv j x) (mv j y)) → E x y
theorem Blk_r {a b x : Nat} : Blk m mv a b x x := fun _ h1 _ _ _ _ => h1 x
theorem Blk_s {a b x y : Nat} (h : Blk m mv a b x y) : Blk m mv a b y x := fun E h1 h2 h3 h4 h5 => h2 _ _ (h E h1 h2 h3 h4 h5)
theorem Blk_t {a b x y z : Nat} (h : Blk m mv a b x y) (g : Blk m mv a b y z) : Blk m mv a b x z := fun E h1 h2 h3 h4 h5 => h3 _ _ _ (h E h1 h2 h3 h4 h5) (g E h1 h2 h3 h4 h5)
theorem Blk_0 {a b : Nat} : Blk m mv a b a b := fun _ _ _ _ h4 _ => h4
theorem Blk_m {a b x y j : Nat} (hj : j < m) (h : Blk m mv a b x y) : Blk m mv a b (mv j x) (mv j y) := fun E h1 h2 h3 h4 h5 => h5 j x y hj (h E h1 h2 h3 h4 h5)
/-- a labelling that joins nothing but what must be joined -/
def LB (n m : Nat) (mv : Nat → Nat → Nat) (a b : Nat) (lab : Nat → Int32) : Prop := lab a = lab b ∧ ∀ x y, x < n → y < n → lab x = lab y → Blk m mv a b x y
/-- how many labels there are -/
def NL (n : Nat) (lab : Nat → Int32) (k : Nat) : Prop := ∃ B : Nat → Bool, (∀ x, B x = true ↔ (x < n ∧ ∀ y, y < x → lab y ≠ lab x)) ∧ k = cT B n
theorem NL_ex (n : Nat) (lab : Nat → Int32) : ∃ k, NL n lab k := by
  obtain ⟨B, hB⟩ := dec_ex (fun x => x < n ∧ ∀ y, y < x → lab y ≠ lab x)
  exact ⟨_, B, hB, rfl⟩
theorem NL_le {lab lab' : Nat → Int32} {k k' : Nat} (h : NL n lab k) (h' : NL n lab' k') (hc : ∀ x y, x < n → y < n → lab x = lab y → lab' x = lab' y) : k' ≤ k := by
  obtain ⟨B, hB, rfl⟩ := h
  obtain ⟨B', hB', rfl⟩ := h'
  refine cT_imp (fun x hx => ?_) n
  obtain ⟨h1, h2⟩ := (hB' x).mp hx
  exact (hB x).mpr ⟨h1, fun y hy g => h2 y hy (hc y x (by omega) h1 g)⟩
theorem NL_lt {lab lab' : Nat → Int32} {k k' u v : Nat} (h : NL n lab k) (h' : NL n lab' k') (hc : ∀ x y, x < n → y < n → lab x = lab y → lab' x = lab' y) (hu : u < n) (hv : v < n) (h1 : lab u ≠ lab v) (h2 : lab' u = lab' v) : k' < k := by
  obtain ⟨B, hB, rfl⟩ := h
  obtain ⟨B', hB', rfl⟩ := h'
  have himp : ∀ x, B' x = true → B x = true := fun x hx => by
    obtain ⟨g1, g2⟩ := (hB' x).mp hx
    exact (hB x).mpr ⟨g1, fun y hy g => g2 y hy (hc y x (by omega) g1 g)⟩
  obtain ⟨u0, a1, a2, a3⟩ := least_ex (fun x => lab x = lab u) u rfl
  obtain ⟨v0, b1, b2, b3⟩ := least_ex (fun x => lab x = lab v) v rfl
  have e1 : lab' u0 = lab' u := hc u0 u (by omega) hu a2
  have e2 : lab' v0 = lab' v := hc v0 v (by omega) hv b2
  have key : ∀ w w', w' < w → w < n → (∀ y, y < w → lab y ≠ lab w) → lab' w' = lab' w → cT B' n < cT B n := fun w w' hw hwn hf hl => by
    refine cT_imp_lt himp (i := w) ?_ ((hB w).mpr ⟨hwn, hf⟩) n hwn
    cases hb : B' w
    · rfl
    · exact absurd hl (((hB' w).mp hb).2 w' hw)
  rcases Nat.lt_trichotomy u0 v0 with g | g | g
  · exact key v0 u0 g (by omega) (fun y hy hl => b3 y hy (hl.trans b2)) (by rw [e1, e2, h2])
  · exact absurd (by rw [← a2, ← b2, g]) h1
  · exact key u0 v0 g (by omega) (fun y hy hl => a3 y hy (hl.trans a2)) (by rw [e1, e2, h2])
theorem NL_n {lab : Nat → Int32} {k : Nat} (h : NL n lab k) : k ≤ n := by
  obtain ⟨B, _, rfl⟩ := h; exact cT_le _ _
/-- joining two labels -/
theorem LB_join {a b u v : Nat} {lab lab' : Nat → Int32} (h : LB n m mv a b lab) (ha : a < n) (hb : b < n) (hu : u < n) (hv : v < n) (hR : Blk m mv a b u v) (hl : ∀ x, x < n → lab' x = if lab x = lab u then lab v else lab x) : LB n m mv a b lab' ∧ (∀ x y, x < n → y < n → lab x = lab y → lab' x = lab' y) ∧ lab' u = lab' v := by
  have hc : ∀ x y, x < n → y < n → lab x = lab y → lab' x = lab' y := fun x y hx hy g => by rw [hl x hx, hl y hy, g]
  refine ⟨⟨hc a b ha hb h.1, fun x y hx hy g => ?_⟩, hc, ?_⟩
  · rw [hl x hx, hl y hy] at g
    by_cases c1 : lab x = lab u
    · rw [if_pos c1] at g
      have r1 := Blk_t (h.2 x u hx hu c1) hR
      by_cases c2 : lab y = lab u
      · exact Blk_t r1 (Blk_s (Blk_t (h.2 y u hy hu c2) hR))
      · rw [if_neg c2] at g
        exact Blk_t r1 (h.2 v y hv hy g)
    · rw [if_neg c1] at g
      by_cases c2 : lab y = lab u
      · rw [if_pos c2] at g
        exact Blk_t (h.2 x v hx hv g) (Blk_s (Blk_t (h.2 y u hy hu c2) hR))
      · rw [if_neg c2] at g
        exact h.2 x y hx hy g
  · rw [hl u hu, hl v hv, if_pos rfl]
    by_cases c : lab v = lab u
    · rw [if_pos c]
    · rw [if_neg c]
/-- a labelling that the moves keep is the one -/
theorem LB_end {a b : Nat} {lab : Nat → Int32} (hmv : ∀ j, j < m → IsP n (mv j)) (ha : a < n) (hb : b < n) (h : LB n m mv a b lab) (hcl : ∀ j x y, j < m → x < n → y < n → lab x = lab y → lab (mv j x) = lab (mv j y)) : ∀ x y, x < n → y < n → (lab x = lab y ↔ Blk m mv a b x y) := fun x y hx hy => ⟨h.2 x y hx hy, fun g => by
  have := g (fun x y => (x < n ∧ y < n ∧ lab x = lab y) ∨ x = y) (fun x => Or.inr rfl) (fun x y g => by
    rcases g with ⟨g1, g2, g3⟩ | g
    · exact Or.inl ⟨g2, g1, g3.symm⟩
    · exact Or.inr g.symm) (fun x y z g k => by
    rcases g with ⟨g1, g2, g3⟩ | g
    · rcases k with ⟨k1, k2, k3⟩ | k
      · exact Or.inl ⟨g1, k2, g3.trans k3⟩
      · subst k; exact Or.inl ⟨g1, g2, g3⟩
    · subst g; exact k) (Or.inl ⟨ha, hb, h.1⟩) (fun j x y hj g => by
    rcases g with ⟨g1, g2, g3⟩ | g
    · exact Or.inl ⟨(hmv j hj).1 x g1, (hmv j hj).1 y g2, hcl j x y hj g1 g2 g3⟩
    · subst g; exact Or.inr rfl)
  rcases this with ⟨_, _, g3⟩ | g
  · exact g3
  · rw [g]⟩
end BL
