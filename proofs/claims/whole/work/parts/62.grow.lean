/-! The class's chain grows: what its rows mean -/
def SK (n : Nat) (mc : Nat → Nat) (mk : Nat → Nat → Nat → Nat) (k : Nat) : PS := fun s => k < n ∧ ∃ i, i < mc k ∧ s = mk k i
def GI (n : Nat) (rb : Nat → Nat) (th : Nat → Nat → Nat → Nat) (mc : Nat → Nat) (mk : Nat → Nat → Nat → Nat) (tr : Nat → Nat → Nat) : Prop :=
  TabOK n (RB (tbR rb)) th ∧ (∀ k i, k < n → i < mc k → IsP n (mk k i) ∧ ∀ t, t < k → mk k i t = t) ∧ (∀ k j, k < n → tbR rb k j = true → Gen n (SK n mc mk k) (th k j)) ∧ (∀ k s, SK n mc mk (k + 1) s → Gen n (SK n mc mk k) s) ∧
  (∀ k j i, k < n → tbR rb k j = true → i < tr k j → tbR rb k (mk k i j) = true ∧ Gen n (SK n mc mk (k + 1)) (cp (cp (th k j) (mk k i)) (iv (th k (mk k i j))))) ∧
  (∀ k i, k < n → i < mc k → ¬ Gen n (fun s => ∃ i', i' < i ∧ s = mk k i') (mk k i)) ∧ (∀ k j, k < n → tbR rb k j = true → tr k j ≤ mc k)
def Cpl (n : Nat) (rb : Nat → Nat) (mc : Nat → Nat) (tr : Nat → Nat → Nat) (c : Nat) : Prop := ∀ k j, c ≤ k → k < n → tbR rb k j = true → mc k ≤ tr k j
section GR
variable {n : Nat} {rb : Nat → Nat} {th : Nat → Nat → Nat → Nat} {mc : Nat → Nat} {mk : Nat → Nat → Nat → Nat} {tr : Nat → Nat → Nat}
theorem SK_P (h : GI n rb th mc mk tr) {k : Nat} : ∀ s, SK n mc mk k s → IsP n s ∧ ∀ i, i < k → s i = i := fun s ⟨h1, i, h2, e⟩ => by rw [e]; exact h.2.1 k i h1 h2
theorem GI_SM (hn : n ≤ 10) (h : GI n rb th mc mk tr) {c : Nat} (hc : Cpl n rb mc tr c) (hcn : c ≤ n) : ∀ k, c ≤ k → k ≤ n → ∀ p, SM n (RB (tbR rb)) th (n - k) p ↔ Gen n (SK n mc mk k) p := by
  refine chain2 hn h.1 (SK n mc mk) (fun k => SK_P h) (fun k j hk hr => h.2.2.1 k j hk hr) (fun k s hs => h.2.2.2.1 k s hs) (n - c) c (by omega) (fun k j s h1 h2 h3 hs => ?_)
  obtain ⟨_, i, hi, e⟩ := hs
  have := hc k j h1 h2 h3
  rw [e]
  exact h.2.2.2.2.1 k j i h2 h3 (by omega)
theorem GI_mc (hn : n ≤ 10) (h : GI n rb th mc mk tr) {k : Nat} (hk : k < n) : mc k ≤ 15 :=
  lag hn (fun i hi => (h.2.1 k i hk hi).1) (fun i hi => h.2.2.2.2.2.1 k i hk hi)
/-- the makers behind are in the group of those of a level ahead -/
theorem SK_down (h : GI n rb th mc mk tr) {k : Nat} : ∀ d, ∀ p, Gen n (SK n mc mk (k + d)) p → Gen n (SK n mc mk k) p := by
  intro d
  induction d with
  | zero => intro p hp; exact hp
  | succ d ih => intro p hp; exact ih p (Gen_mono (fun s hs => h.2.2.2.1 (k + d) s hs) p hp)
/-- a new maker at the levels from a to b -/
def imc (mc : Nat → Nat) (a b : Nat) : Nat → Nat := fun k => if a ≤ k ∧ k ≤ b then mc k + 1 else mc k
def imk (mc : Nat → Nat) (mk : Nat → Nat → Nat → Nat) (a b : Nat) (r : Nat → Nat) : Nat → Nat → Nat → Nat := fun k i => if (a ≤ k ∧ k ≤ b) ∧ i = mc k then r else mk k i
theorem imk_old {a b : Nat} {r : Nat → Nat} {k i : Nat} (h : i < mc k) : imk mc mk a b r k i = mk k i := if_neg (fun g => by omega)
theorem SK_ins {a b : Nat} {r : Nat → Nat} {k : Nat} {s : Nat → Nat} : SK n (imc mc a b) (imk mc mk a b r) k s ↔ (SK n mc mk k s ∨ (k < n ∧ (a ≤ k ∧ k ≤ b) ∧ s = r)) := by
  constructor
  · intro ⟨h1, i, h2, e⟩
    by_cases hk : (a ≤ k ∧ k ≤ b) ∧ i = mc k
    · right
      refine ⟨h1, hk.1, ?_⟩
      rw [e]; exact if_pos hk
    · left
      refine ⟨h1, i, ?_, ?_⟩
      · unfold imc at h2
        split at h2
        · rename_i h3
          have : i ≠ mc k := fun e => hk ⟨h3, e⟩
          omega
        · exact h2
      · rw [e]; exact if_neg hk
  · intro h
    rcases h with ⟨h1, i, h2, e⟩ | ⟨h1, h2, e⟩
    · refine ⟨h1, i, ?_, by rw [imk_old h2]; exact e⟩
      unfold imc; split <;> omega
    · refine ⟨h1, mc k, ?_, ?_⟩
      · unfold imc; rw [if_pos h2]; omega
      · rw [e]; exact (if_pos ⟨h2, rfl⟩).symm
theorem GI_ins (hn : n ≤ 10) (h : GI n rb th mc mk tr) {a b : Nat} (hab : a ≤ b) (hb : b < n) (hc : Cpl n rb mc tr a) {r : Nat → Nat} (hr : IsP n r) (hrf : ∀ i, i < b → r i = i) (hno : ∀ k, a ≤ k → k ≤ b → ¬ SM n (RB (tbR rb)) th (n - k) r) (hup : ∀ k, k + 1 = a → Gen n (SK n mc mk k) r) :
    GI n rb th (imc mc a b) (imk mc mk a b r) tr ∧ Cpl n rb (imc mc a b) tr (b + 1) := by
  have hmono : ∀ k p, Gen n (SK n mc mk k) p → Gen n (SK n (imc mc a b) (imk mc mk a b r) k) p := fun k p hp => Gen_mono (fun s hs => Gen_in (SK_ins.mpr (Or.inl hs))) p hp
  refine ⟨⟨h.1, fun k i hk hi => ?_, fun k j hk hr' => hmono k _ (h.2.2.1 k j hk hr'), fun k s hs => ?_, fun k j i hk hr' hi => ?_, fun k i hk hi => ?_, fun k j hk hr' => ?_⟩, fun k j h1 h2 h3 => ?_⟩
  · by_cases hh : (a ≤ k ∧ k ≤ b) ∧ i = mc k
    · have e : imk mc mk a b r k i = r := if_pos hh
      rw [e]; exact ⟨hr, fun t ht => hrf t (by omega)⟩
    · have e : imk mc mk a b r k i = mk k i := if_neg hh
      have : i < mc k := by
        unfold imc at hi
        split at hi
        · rename_i h3
          have : i ≠ mc k := fun e => hh ⟨h3, e⟩
          omega
        · exact hi
      rw [e]; exact h.2.1 k i hk this
  · rcases SK_ins.mp hs with g | ⟨g1, g2, g3⟩
    · exact hmono k s (h.2.2.2.1 k s g)
    · rw [g3]
      by_cases e : a ≤ k
      · exact Gen_in (SK_ins.mpr (Or.inr ⟨by omega, ⟨e, by omega⟩, rfl⟩))
      · exact hmono k r (hup k (by omega))
  · have := h.2.2.2.2.2.2 k j hk hr'
    rw [imk_old (show i < mc k by omega)]
    obtain ⟨g1, g2⟩ := h.2.2.2.2.1 k j i hk hr' hi
    exact ⟨g1, hmono (k + 1) _ g2⟩
  · by_cases hh : (a ≤ k ∧ k ≤ b) ∧ i = mc k
    · have e : imk mc mk a b r k i = r := if_pos hh
      rw [e]
      intro g
      refine hno k hh.1.1 hh.1.2 ((GI_SM hn h hc (by omega) k hh.1.1 (by omega) r).mpr (Gen_mono (fun s ⟨i', h1, h2⟩ => Gen_in ⟨hk, i', by omega, ?_⟩) r g))
      rw [h2, imk_old (by omega)]
    · have e : imk mc mk a b r k i = mk k i := if_neg hh
      have hi2 : i < mc k := by
        unfold imc at hi
        split at hi
        · rename_i h3
          have : i ≠ mc k := fun e => hh ⟨h3, e⟩
          omega
        · exact hi
      rw [e]
      intro g
      refine h.2.2.2.2.2.1 k i hk hi2 (Gen_mono (fun s ⟨i', h1, h2⟩ => Gen_in ⟨i', h1, ?_⟩) _ g)
      rw [h2, imk_old (by omega)]
  · have := h.2.2.2.2.2.2 k j hk hr'
    unfold imc; split <;> omega
  · have := hc k j (by omega) h2 h3
    unfold imc
    rw [if_neg (by omega)]
    exact this
/-- one more maker is tried at a point -/
def itr (tr : Nat → Nat → Nat) (lv pt v : Nat) : Nat → Nat → Nat := fun k j => if k = lv ∧ j = pt then v else tr k j
theorem GI_try (h : GI n rb th mc mk tr) {lv pt : Nat} (hl : lv < n) (hm : tr lv pt < mc lv) (h1 : tbR rb lv (mk lv (tr lv pt) pt) = true) (h2 : Gen n (SK n mc mk (lv + 1)) (cp (cp (th lv pt) (mk lv (tr lv pt))) (iv (th lv (mk lv (tr lv pt) pt))))) : GI n rb th mc mk (itr tr lv pt (tr lv pt + 1)) := by
  refine ⟨h.1, h.2.1, h.2.2.1, h.2.2.2.1, fun k j i hk hr hi => ?_, h.2.2.2.2.2.1, fun k j hk hr => ?_⟩
  · by_cases e : k = lv ∧ j = pt
    · obtain ⟨e1, e2⟩ := e
      subst e1; subst e2
      have hi : i < tr k j + 1 := by
        have : itr tr k j (tr k j + 1) k j = tr k j + 1 := if_pos ⟨rfl, rfl⟩
        omega
      by_cases e : i = tr k j
      · rw [e]; exact ⟨h1, h2⟩
      · exact h.2.2.2.2.1 k j i hk hr (by omega)
    · have : itr tr lv pt (tr lv pt + 1) k j = tr k j := if_neg e
      exact h.2.2.2.2.1 k j i hk hr (by omega)
  · by_cases e : k = lv ∧ j = pt
    · have : itr tr lv pt (tr lv pt + 1) k j = tr lv pt + 1 := if_pos e
      rw [e.1] at *
      omega
    · have : itr tr lv pt (tr lv pt + 1) k j = tr k j := if_neg e
      have := h.2.2.2.2.2.2 k j hk hr
      omega
/-- a new point is reached -/
def irb (rb : Nat → Nat) (lv im : Nat) : Nat → Nat := fun k => if k = lv then rb lv ||| 2 ^ im else rb k
def ith (th : Nat → Nat → Nat → Nat) (lv im : Nat) (t : Nat → Nat) : Nat → Nat → Nat → Nat := fun k j => if k = lv ∧ j = im then t else th k j
theorem irb_tb {lv im k j : Nat} : tbR (irb rb lv im) k j = (if k = lv ∧ j = im then true else tbR rb k j) := by
  unfold tbR irb
  by_cases h : k = lv
  · rw [if_pos h, Nat.testBit_or, Nat.testBit_two_pow, h]
    by_cases e : j = im
    · rw [if_pos ⟨rfl, e⟩, e]; simp
    · rw [if_neg (fun g => e g.2), decide_eq_false (fun g => e g.symm), Bool.or_false]
  · rw [if_neg h, if_neg (fun g => h g.1)]
theorem GI_new (hn : n ≤ 10) (h : GI n rb th mc mk tr) {lv pt : Nat} (hl : lv < n) (hp : tbR rb lv pt = true) (hm : tr lv pt < mc lv) (h1 : tbR rb lv (mk lv (tr lv pt) pt) = false) :
    GI n (irb rb lv (mk lv (tr lv pt) pt)) (ith th lv (mk lv (tr lv pt) pt) (cp (th lv pt) (mk lv (tr lv pt)))) mc mk (itr (itr tr lv pt (tr lv pt + 1)) lv (mk lv (tr lv pt) pt) 0) := by
  obtain ⟨m1, m2⟩ := h.2.1 lv _ hl hm
  obtain ⟨t1, t2, t3, t4⟩ := (h.1 lv hl).2 pt hp
  generalize him : mk lv (tr lv pt) pt = im at *
  generalize hmm : mk lv (tr lv pt) = m at *
  have hne : im ≠ lv := fun e => by
    rw [e] at h1
    have : tbR rb lv lv = true := ((h.1 lv hl).1).1
    rw [this] at h1; cases h1
  have hpi : pt ≠ im := fun e => by
    rw [← e, hp] at h1; cases h1
  have old : ∀ k j, tbR rb k j = true → ith th lv im (cp (th lv pt) m) k j = th k j := fun k j hr => if_neg (fun g => by rw [g.1, g.2, h1] at hr; cases hr)
  have hin : ∀ k j, tbR (irb rb lv im) k j = true → (k = lv ∧ j = im) ∨ tbR rb k j = true := fun k j hr => by
    rw [irb_tb] at hr
    by_cases e : k = lv ∧ j = im
    · exact Or.inl e
    · rw [if_neg e] at hr; exact Or.inr hr
  have hup : ∀ k j, tbR rb k j = true → tbR (irb rb lv im) k j = true := fun k j hr => by
    rw [irb_tb]; split
    · rfl
    · exact hr
  have hSub := Gen_Sub hn (fun a ha => (SK_P h (k := lv) a ha).1)
  have hT : Gen n (SK n mc mk lv) (cp (th lv pt) m) := hSub.2.2.1 _ _ (h.2.2.1 lv pt hl hp) (Gen_in ⟨hl, tr lv pt, hm, hmm.symm⟩)
  have hnew : ith th lv im (cp (th lv pt) m) lv im = cp (th lv pt) m := if_pos ⟨rfl, rfl⟩
  refine ⟨fun k hk => ⟨⟨hup k k (h.1 k hk).1.1, ?_⟩, fun j hr => ?_⟩, h.2.1, fun k j hk hr => ?_, h.2.2.2.1, fun k j i hk hr hi => ?_, h.2.2.2.2.2.1, fun k j hk hr => ?_⟩
  · rw [old k k (h.1 k hk).1.1]; exact (h.1 k hk).1.2
  · rcases hin k j hr with e | e
    · rw [e.1, e.2, hnew]
      refine ⟨by rw [← him]; exact m1.1 pt t1, IsP_cp t2 m1, fun i hi => ?_, ?_⟩
      · show m (th lv pt i) = i
        rw [t3 i hi, m2 i hi]
      · show m (th lv pt lv) = im
        rw [t4, him]
    · rw [old k j e]; exact (h.1 k hk).2 j e
  · rcases hin k j hr with e | e
    · rw [e.1, e.2, hnew]; exact hT
    · rw [old k j e]; exact h.2.2.1 k j hk e
  · rcases hin k j hr with e | e
    · rw [e.1, e.2] at hi
      have : itr (itr tr lv pt (tr lv pt + 1)) lv im 0 lv im = 0 := if_pos ⟨rfl, rfl⟩
      omega
    · have hne2 : ¬ (k = lv ∧ j = im) := fun g => by rw [g.1, g.2, h1] at e; cases e
      have e3 : itr (itr tr lv pt (tr lv pt + 1)) lv im 0 k j = itr tr lv pt (tr lv pt + 1) k j := if_neg hne2
      rw [e3] at hi
      by_cases e4 : k = lv ∧ j = pt
      · obtain ⟨e5, e6⟩ := e4
        subst e5; subst e6
        have e7 : itr tr k j (tr k j + 1) k j = tr k j + 1 := if_pos ⟨rfl, rfl⟩
        by_cases e8 : i = tr k j
        · rw [e8, hmm, him, hnew, old k j hp, cp_iv hn (IsP_cp t2 m1)]
          exact ⟨by rw [irb_tb, if_pos ⟨rfl, rfl⟩], (Gen_Sub hn (fun a ha => (SK_P h a ha).1)).2.1⟩
        · obtain ⟨g1, g2⟩ := h.2.2.2.2.1 k j i hk e (by omega)
          rw [old k j e, old k _ g1]
          exact ⟨hup _ _ g1, g2⟩
      · have e7 : itr tr lv pt (tr lv pt + 1) k j = tr k j := if_neg e4
        obtain ⟨g1, g2⟩ := h.2.2.2.2.1 k j i hk e (by omega)
        rw [old k j e, old k _ g1]
        exact ⟨hup _ _ g1, g2⟩
  · by_cases e2 : k = lv ∧ j = im
    · have : itr (itr tr lv pt (tr lv pt + 1)) lv im 0 k j = 0 := if_pos e2
      omega
    · have e3 : itr (itr tr lv pt (tr lv pt + 1)) lv im 0 k j = itr tr lv pt (tr lv pt + 1) k j := if_neg e2
      rw [e3]
      have hr2 : tbR rb k j = true := (hin k j hr).resolve_left e2
      have := h.2.2.2.2.2.2 k j hk hr2
      by_cases e4 : k = lv ∧ j = pt
      · have : itr tr lv pt (tr lv pt + 1) k j = tr lv pt + 1 := if_pos e4
        rw [e4.1] at *
        omega
      · have : itr tr lv pt (tr lv pt + 1) k j = tr k j := if_neg e4
        omega
end GR
