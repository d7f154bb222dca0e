/-! Loading: words, names -/
section LW
variable {b b' : Nat → Int32} {last i s e k : Nat} {I J : MI} {L M : ML}
theorem wv_cg {s s' : Nat} : ∀ d, (∀ j, j < d → b (s + j) = b' (s' + j)) → wv b s d = wv b' s' d := by
  intro d
  induction d with
  | zero => intro _; rfl
  | succ d ih =>
    intro h
    show 27 * wv b s d + lv (b (s + d)) = 27 * wv b' s' d + lv (b' (s' + d))
    rw [ih (fun j hj => h j (by omega)), h d (by omega)]
theorem wv_inj {s s' : Nat} : ∀ d d', (∀ j, j < d → cL (b (s + j)) = true) → (∀ j, j < d' → cL (b' (s' + j)) = true) → wv b s d = wv b' s' d' → d = d' ∧ ∀ j, j < d → b (s + j) = b' (s' + j) := by
  intro d
  induction d with
  | zero =>
    intro d' _ h2 e
    cases d' with
    | zero => exact ⟨rfl, fun j hj => by omega⟩
    | succ d' =>
      have := cL_e (h2 d' (by omega))
      have e : 0 = 27 * wv b' s' d' + lv (b' (s' + d')) := e
      omega
  | succ d ih =>
    intro d' h1 h2 e
    have l1 := cL_e (h1 d (by omega))
    cases d' with
    | zero =>
      have e : 27 * wv b s d + lv (b (s + d)) = 0 := e
      omega
    | succ d' =>
      have l2 := cL_e (h2 d' (by omega))
      have e : 27 * wv b s d + lv (b (s + d)) = 27 * wv b' s' d' + lv (b' (s' + d')) := e
      have el : lv (b (s + d)) = lv (b' (s' + d')) := by omega
      obtain ⟨i1, i2⟩ := ih d' (fun j hj => h1 j (by omega)) (fun j hj => h2 j (by omega)) (by omega)
      refine ⟨by omega, fun j hj => ?_⟩
      by_cases c : j = d
      · rw [c, l1.1, el, i1]
        exact l2.1.symm
      · exact i2 j (by omega)
theorem wv_lt {s : Nat} : ∀ d, (∀ j, j < d → cL (b (s + j)) = true) → wv b s d < 27 ^ d := by
  intro d
  induction d with
  | zero => intro _; exact (show (0 : Nat) < 27 ^ 0 by decide)
  | succ d ih =>
    intro h
    have l := cL_e (h d (by omega))
    have := ih (fun j hj => h j (by omega))
    show 27 * wv b s d + lv (b (s + d)) < 27 ^ (d + 1)
    rw [Nat.pow_succ]
    omega
/-- a word: letters, at most eight -/
def Wd (b : Nat → Int32) (last s e : Nat) : Prop := s < e ∧ e ≤ last ∧ e - s ≤ 8 ∧ ∀ j, j < e - s → cL (b (s + j)) = true
theorem Wd_lt (h : Wd b last s e) : wv b s (e - s) < 2 ^ 63 := by
  have h1 := wv_lt _ h.2.2.2
  have h2 : 27 ^ (e - s) ≤ 27 ^ 8 := Nat.pow_le_pow_right (by decide) h.2.2.1
  omega
theorem Tok_W (h : Tok b last i s e 1) : Wd b last s e := by
  obtain ⟨_, h2⟩ := h
  rcases h2 with ⟨g1, g2, g3⟩ | ⟨g1, g2, g3, g4⟩ | ⟨g1, g2, g3, g4, g5⟩ | ⟨g1, g2, g3, g4, g5⟩
  · omega
  · have h3 := Rn_lt g3 g1 g2
    by_cases c : e - s ≤ 8
    · exact ⟨h3, g3.2.1, c, fun j hj => g3.2.2.1 (s + j) (by omega) (by omega)⟩
    · rw [if_neg c] at g4; omega
  · split at g5 <;> omega
  · rcases g5 with ⟨_, g⟩ | ⟨_, _, _, _, g⟩ <;> omega
/-- the three words that are no names -/
def wB3 (q : Nat) : Nat → Int32 := fun j => sbt q j
def wL3 (q : Nat) : Nat := sLen.getD q 0
def wC3 (q : Nat) : Nat := wv (wB3 q) 0 (wL3 q)
theorem wC3_0 : wC3 0 = 237742039 := by decide
theorem wC3_1 : wC3 1 = 267413 := by decide
theorem wC3_2 : wC3 2 = 464134 := by decide
theorem wL3_c : ∀ q, q < 3 → ∀ j, j < wL3 q → cL (wB3 q (0 + j)) = true := by decide
theorem wL3_s : ∀ q, q < 3 → wL3 q ≤ 6 ∧ slen q = nI (wL3 q) ∧ ∀ j, j < wL3 q → f_J0_charAt_5068e q (nI j) = some (wB3 q j) := by decide
theorem says_eq {q : Nat} {c : Bool} (hq : q < 3) (hl : last ≤ 400) (hC : CTk b I s e k) (hb : ∀ j, j < last → I 2 j = b j) (hW : Wd b last s e) (hc : c = true ↔ wv b s (e - s) = wC3 q) : f_X5_says q I L = some c := by
  obtain ⟨l1, l2, l3⟩ := wL3_s q hq
  obtain ⟨w1, w2, w3, w4⟩ := hW
  unfold f_X5_says
  have hlen : f_J0_length_8abf5 q = some (nI (wL3 q)) := by unfold f_J0_length_8abf5; rw [l2]
  rw [ob hlen, hC.2.1, hC.1, pk_sub (by omega), ifc (q_eq (by omega) (by omega))]
  by_cases c1 : e - s = wL3 q
  · rw [if_pos c1]
    have := loop0 (fun fu z => f_X5_says_20 q I L fu z) (fun j z => j ≤ wL3 q ∧ z = nI j ∧ ∀ t, t < j → b (s + t) = wB3 q (0 + t)) (fun o => o = some c) (wL3 q) (by omega) (nI 0) ⟨Nat.zero_le _, rfl, fun t ht => by omega⟩
      (fun fu j z hj hP => by
        obtain ⟨_, p1, p2⟩ := hP
        subst p1
        rw [f_X5_says_20, ob hlen, ifc (q_le (by omega) (by omega))]
        by_cases c2 : wL3 q ≤ j
        · left
          rw [if_pos c2, hc.mpr (by rw [c1]; exact wv_cg _ (fun t ht => p2 t (by omega)))]
        · rw [if_neg c2, hC.1, nI_add, if_neg (by rw [show (400 : Int32) = nI 400 from rfl, q_le (by decide) (by omega)]; omega), q_chk (by omega) (by decide), ob (l3 j (by omega)), q_ix (by omega), hb _ (by omega)]
          by_cases c3 : b (s + j) = wB3 q j
          · right
            refine ⟨by omega, nI (j + 1), ?_, by omega, rfl, fun t ht => ?_⟩
            · rw [if_pos c3, bnd_eq, nI_1]
            · by_cases e1 : t = j
              · rw [e1, Nat.zero_add]; exact c3
              · exact p2 t (by omega)
          · left
            rw [if_neg c3]
            cases c
            · rfl
            · have := (wv_inj _ _ w4 (wL3_c q hq) (hc.mp rfl)).2 j (by omega)
              rw [Nat.zero_add] at this
              exact absurd this c3)
    rw [nI_0] at this
    exact this
  · rw [if_neg c1]
    cases c
    · rfl
    · exact absurd (wv_inj _ _ w4 (wL3_c q hq) (hc.mp rfl)).1 c1
theorem good_t (h : J 43 33 = 0) : f_X8_good J M = some true := by unfold f_X8_good; rw [if_pos h]
theorem isWord_eq {c : Nat} (h : J 43 33 = 0) (hR : RTk b J M s e k) (hk : k = 1) (hW : Wd b last s e) (hc : c < 2 ^ 63) : f_X8_isWord (lN c) J M = some (decide (wv b s (e - s) = c)) := by
  subst hk
  unfold f_X8_isWord
  rw [ob (good_t h), if_neg b2i_t, hR.2.2.1, if_pos (show nI (ts 1) = 1 from rfl), hR.2.2.2.2 rfl]
  by_cases g : wv b s (e - s) = c
  · rw [if_pos (by rw [q_cmp0, g]), decide_eq_true g]
  · rw [if_neg (by rw [q_cmp0, pk_lEQ (Wd_lt hW) hc]; exact g), decide_eq_false g]
theorem ts_n1 {k : Nat} (h : k ≤ 59) : (nI (ts k) = 1) = (k = 1) := by
  rw [show (1 : Int32) = nI 1 from rfl]
  have h1 : ts k ≤ 4 ∨ ts k = k := by unfold ts; split <;> (try split) <;> omega
  rw [q_eq (by unfold ts; split <;> (try split) <;> omega) (by decide)]
  apply propext
  unfold ts
  split
  · exact Iff.rfl
  · split <;> omega
theorem isWord_no {c : Int64} (h : J 43 33 = 0) (hR : RTk b J M s e k) (hk : k ≠ 1) (hk2 : k ≤ 59) : f_X8_isWord c J M = some false := by
  unfold f_X8_isWord
  rw [ob (good_t h), if_neg b2i_t, hR.2.2.1, if_neg (by rw [ts_n1 hk2]; exact hk)]
def Rsv (b : Nat → Int32) (s e : Nat) : Prop := wv b s (e - s) = wC3 0 ∨ wv b s (e - s) = wC3 1 ∨ wv b s (e - s) = wC3 2
theorem isName_eq {c : Bool} (h : J 43 33 = 0) (hR : RTk b J M s e k) (hk2 : k ≤ 59) (hW : k = 1 → Wd b last s e) (hc : c = true ↔ (k = 1 ∧ ¬ Rsv b s e)) : f_X8_isName J M = some c := by
  unfold f_X8_isName
  rw [ob (good_t h), if_neg b2i_t, hR.2.2.1]
  by_cases g : k = 1
  · have hW := hW g
    rw [if_pos (by rw [ts_n1 hk2]; exact g), hR.2.2.2.2 g]
    have q : ∀ x : Nat, x < 2 ^ 63 → (lg_cmp (lN (wv b s (e - s))) (lN x) = 0) = (wv b s (e - s) = x) := fun x hx => by rw [q_cmp0]; exact propext (pk_lEQ (Wd_lt hW) hx)
    rw [show (237742039 : Int64) = lN 237742039 from rfl, show (267413 : Int64) = lN 267413 from rfl, show (464134 : Int64) = lN 464134 from rfl, ifc (q _ (by decide)), ifc (q _ (by decide)), ifc (q _ (by decide))]
    unfold Rsv at hc
    rw [wC3_0, wC3_1, wC3_2] at hc
    by_cases g1 : wv b s (e - s) = 237742039
    · rw [if_pos g1]
      cases c
      · rfl
      · exact absurd (Or.inl g1) (hc.mp rfl).2
    · rw [if_neg g1]
      by_cases g2 : wv b s (e - s) = 267413
      · rw [if_pos g2]
        cases c
        · rfl
        · exact absurd (Or.inr (Or.inl g2)) (hc.mp rfl).2
      · rw [if_neg g2]
        by_cases g3 : wv b s (e - s) = 464134
        · rw [if_pos g3]
          cases c
          · rfl
          · exact absurd (Or.inr (Or.inr g3)) (hc.mp rfl).2
        · rw [if_neg g3, hc.mpr ⟨g, fun x => x.elim g1 (fun y => y.elim g2 g3)⟩]
  · rw [if_neg (by rw [ts_n1 hk2]; exact g)]
    cases c
    · rfl
    · exact absurd (hc.mp rfl).1 g
theorem isSign_eq {g : Nat} (hg : g = 40 ∨ g = 41 ∨ g = 39 ∨ g = 59) (hl : last ≤ 400) (h : J 43 33 = 0) (h39 : J 43 39 = nI last) (hb : ∀ j, j < last → J 66 j = b j) (hR : RTk b J M s e k) (hT : Tok b last i s e k) : f_X8_isSign (nI g) J M = some (decide (k = g)) := by
  obtain ⟨_, hT⟩ := id hT
  have hlt := Tok_lt ‹Tok b last i s e k›
  unfold f_X8_isSign
  rw [ob (good_t h), if_neg b2i_t, h39, hR.1, ifc (q_le (by omega) (by omega))]
  rcases hT with ⟨g1, g2, g3⟩ | ⟨g1, g2, g3, g4⟩ | ⟨g1, g2, g3, g4, g5⟩ | ⟨g1, g2, g3, g4, g5⟩
  · rw [if_pos (by omega), decide_eq_false (by omega)]
  · have hk : k ≠ g := by rw [g4]; split <;> omega
    obtain ⟨c1, c2, c3⟩ := cL_e g2
    rw [if_neg (by omega), q_chk (by omega) (by decide), q_ix (by omega), hb s g1, c1, ifc (q_eq (by omega) (by omega)), if_neg (by omega), decide_eq_false hk]
  · have hk : k ≠ g := by rw [g5]; split <;> omega
    obtain ⟨c1, c2⟩ := cD_e g3
    rw [if_neg (by omega), q_chk (by omega) (by decide), q_ix (by omega), hb s g1, c1, ifc (q_eq (by omega) (by omega)), if_neg (by omega), decide_eq_false hk]
  · rw [if_neg (by omega), q_chk (by omega) (by decide), q_ix (by omega), hb s g1]
    rcases g5 with ⟨g5, g6⟩ | ⟨q1, q2, q3, q4, q5⟩
    · rw [g5, ifc (q_eq (by omega) (by omega))]
      by_cases hk : k = g
      · rw [if_pos hk, decide_eq_true hk]
      · rw [if_neg hk, decide_eq_false hk]
    · have hk : k ≠ g := by omega
      rw [decide_eq_false hk]
      rcases hg with rfl | rfl | rfl | rfl
      · exact if_neg q1
      · exact if_neg q2
      · exact if_neg q3
      · exact if_neg q4
theorem isSameAt_eq {s0 e0 : Nat} {c : Bool} (hl : last ≤ 400) (hC : CTk b I s e k) (hb : ∀ j, j < last → I 2 j = b j) (h0 : Wd b last s0 e0) (hW : Wd b last s e) (he : e0 - s0 = e - s) (hc : c = true ↔ wv b s0 (e0 - s0) = wv b s (e - s)) : f_X5_isSameAt (nI s0) I L = some c := by
  obtain ⟨w1, w2, w3, w4⟩ := hW
  obtain ⟨v1, v2, v3, v4⟩ := h0
  unfold f_X5_isSameAt
  have := loop0 (fun fu z => f_X5_isSameAt_2 (nI s0) I L fu z) (fun j z => j ≤ e - s ∧ z = nI j ∧ ∀ t, t < j → b (s0 + t) = b (s + t)) (fun o => o = some c) (e - s) (by omega) (nI 0) ⟨Nat.zero_le _, rfl, fun t ht => by omega⟩
    (fun fu j z hj hP => by
      obtain ⟨_, p1, p2⟩ := hP
      subst p1
      rw [f_X5_isSameAt_2, hC.2.1, hC.1, pk_sub (by omega), ifc (q_le (by omega) (by omega))]
      by_cases c2 : e - s ≤ j
      · left
        rw [if_pos c2, hc.mpr (by rw [he]; exact wv_cg _ (fun t ht => p2 t (by omega)))]
      · rw [if_neg c2, nI_add, nI_add, q_chk (by omega) (by decide), q_chk (by omega) (by decide), q_ix (by omega), q_ix (by omega), hb _ (by omega), hb _ (by omega)]
        by_cases c3 : b (s0 + j) = b (s + j)
        · right
          refine ⟨by omega, nI (j + 1), ?_, by omega, rfl, fun t ht => ?_⟩
          · rw [if_pos c3, bnd_eq, nI_1]
          · by_cases e1 : t = j
            · rw [e1]; exact c3
            · exact p2 t (by omega)
        · left
          rw [if_neg c3]
          cases c
          · rfl
          · exact absurd ((wv_inj _ _ v4 w4 (hc.mp rfl)).2 j (by omega)) c3)
  rw [nI_0] at this
  exact this
/-- both find a name alike -/
theorem named_eq {m : Nat} {ns ne : Nat → Nat} (hl : last ≤ 400) (hm : m ≤ 6) (hC : CTk b I s e k) (hb : ∀ j, j < last → I 2 j = b j) (h8 : I 1 8 = nI m) (hI : ∀ t, t < m → I 4 t = nI (ns t) ∧ I 5 t = nI (ne t - ns t)) (hw : ∀ t, t < m → Wd b last (ns t) (ne t)) (hW : Wd b last s e) (h41 : J 43 41 = nI m) (hJ : ∀ t, t < m → M 67 t = lN (wv b (ns t) (ne t - ns t))) (h42 : M 43 42 = lN (wv b s (e - s))) : ∃ r, f_X5_named I L = some r ∧ f_X8_nameNow J M = some r ∧ (r = -1 ∨ ∃ t, t < m ∧ r = nI t) := by
  obtain ⟨B, hB⟩ := dec_ex (fun t => wv b (ns t) (ne t - ns t) = wv b s (e - s))
  obtain ⟨r, hr⟩ : ∃ r : Int32, (r = -1 ∧ ∀ t, t < m → B t = false) ∨ (∃ t, t < m ∧ r = nI t ∧ B t = true ∧ ∀ t', t' < t → B t' = false) := by
    by_cases g : ∃ t, t < m ∧ B t = true
    · obtain ⟨t, t1, t2⟩ := g
      obtain ⟨x, x1, x2, x3⟩ := least_ex (fun t => B t = true) t t2
      exact ⟨nI x, Or.inr ⟨x, by omega, rfl, x2, fun t' ht => by
        cases g : B t'
        · rfl
        · exact absurd g (x3 t' ht)⟩⟩
    · exact ⟨-1, Or.inl ⟨rfl, fun t ht => by
        cases g2 : B t
        · rfl
        · exact absurd ⟨t, ht, g2⟩ g⟩⟩
  have hfin : r = -1 ∨ ∃ t, t < m ∧ r = nI t := hr.imp (fun g => g.1) (fun ⟨t, t1, t2, _⟩ => ⟨t, t1, t2⟩)
  refine ⟨r, ?_, ?_, hfin⟩
  · unfold f_X5_named
    have := loop0 (fun fu z => f_X5_named_2 I L fu z) (fun j z => j ≤ m ∧ z = nI j ∧ ∀ t, t < j → B t = false) (fun o => o = some r) m (by omega) (nI 0) ⟨Nat.zero_le _, rfl, fun t ht => by omega⟩
      (fun fu j z hj hP => by
        obtain ⟨_, p1, p2⟩ := hP
        subst p1
        rw [f_X5_named_2, h8, ifc (q_le (by omega) (by omega))]
        by_cases c1 : m ≤ j
        · left
          rw [if_pos c1]
          rcases hr with ⟨g, _⟩ | ⟨t, t1, _, t3, _⟩
          · rw [g]
          · rw [p2 t (by omega)] at t3; cases t3
        · have hwj := hw j (by omega)
          have h8j := hwj.2.2.1
          have hWd := hW.2.2.1
          rw [if_neg c1, q_chk (by omega) (by decide), q_ix (by omega), (hI j (by omega)).2, hC.2.1, hC.1, pk_sub (by have := hW.1; omega), ifc (q_eq (by omega) (by omega))]
          have nx : B j = false → j < m ∧ ∃ z', (bnd (nI j + 1 : Int32) (fun v1 => f_X5_named_2 I L fu v1)) = f_X5_named_2 I L fu z' ∧ j + 1 ≤ m ∧ z' = nI (j + 1) ∧ ∀ t, t < j + 1 → B t = false := fun g => ⟨by omega, nI (j + 1), by rw [bnd_eq, nI_1], by omega, rfl, fun t ht => by
            by_cases e1 : t = j
            · rw [e1]; exact g
            · exact p2 t (by omega)⟩
          by_cases c2 : ne j - ns j = e - s
          · rw [if_pos c2, q_chk (by omega) (by decide), (hI j (by omega)).1, ob (isSameAt_eq hl hC hb hwj hW c2 (hB j))]
            cases g : B j
            · right
              rw [if_pos b2i_f]
              exact nx g
            · left
              rw [if_neg b2i_t]
              rcases hr with ⟨_, g2⟩ | ⟨t, t1, t2, t3, t4⟩
              · rw [g2 j (by omega)] at g; cases g
              · have : t = j := by
                  rcases Nat.lt_trichotomy t j with x | x | x
                  · rw [p2 t x] at t3; cases t3
                  · exact x
                  · rw [t4 j x] at g; cases g
                rw [t2, this]
          · right
            rw [if_neg c2]
            refine nx ?_
            cases g : B j
            · rfl
            · exact absurd (wv_inj _ _ hwj.2.2.2 hW.2.2.2 ((hB j).mp g)).1 c2)
    rw [nI_0] at this
    exact this
  · unfold f_X8_nameNow
    have := loop0 (fun fu z => f_X8_nameNow_2 J M fu z) (fun j z => j ≤ m ∧ z = nI j ∧ ∀ t, t < j → B t = false) (fun o => o = some r) m (by omega) (nI 0) ⟨Nat.zero_le _, rfl, fun t ht => by omega⟩
      (fun fu j z hj hP => by
        obtain ⟨_, p1, p2⟩ := hP
        subst p1
        rw [f_X8_nameNow_2, h41, ifc (q_le (by omega) (by omega))]
        by_cases c1 : m ≤ j
        · left
          rw [if_pos c1]
          rcases hr with ⟨g, _⟩ | ⟨t, t1, _, t3, _⟩
          · rw [g]
          · rw [p2 t (by omega)] at t3; cases t3
        · have hwj := hw j (by omega)
          have q : (lg_cmp (M 67 (ix (nI j))) (M 43 42) = 0) = (B j = true) := by
            rw [q_ix (by omega), hJ j (by omega), h42, q_cmp0]
            exact propext ((pk_lEQ (Wd_lt hwj) (Wd_lt hW)).trans (hB j).symm)
          rw [if_neg c1, q_chk (by omega) (by decide), ifc q]
          cases g : B j
          · right
            refine ⟨by omega, nI (j + 1), ?_, by omega, rfl, fun t ht => ?_⟩
            · rw [if_neg (by decide), bnd_eq, nI_1]
            · by_cases e1 : t = j
              · rw [e1]; exact g
              · exact p2 t (by omega)
          · left
            rw [if_pos rfl]
            rcases hr with ⟨_, g2⟩ | ⟨t, t1, t2, t3, t4⟩
            · rw [g2 j (by omega)] at g; cases g
            · have : t = j := by
                rcases Nat.lt_trichotomy t j with x | x | x
                · rw [p2 t x] at t3; cases t3
                · exact x
                · rw [t4 j x] at g; cases g
              rw [t2, this])
    rw [nI_0] at this
    exact this
theorem nameNow_any {m : Nat} (hm : m ≤ 6) (h41 : J 43 41 = nI m) : ∃ r, f_X8_nameNow J M = some r := by
  unfold f_X8_nameNow
  have := loop0 (fun fu z => f_X8_nameNow_2 J M fu z) (fun j z => j ≤ m ∧ z = nI j) (fun o => ∃ r, o = some r) m (by omega) (nI 0) ⟨Nat.zero_le _, rfl⟩
    (fun fu j z hj hP => by
      obtain ⟨_, p1⟩ := hP
      subst p1
      rw [f_X8_nameNow_2, h41, ifc (q_le (by omega) (by omega))]
      by_cases c1 : m ≤ j
      · left; rw [if_pos c1]; exact ⟨_, rfl⟩
      · rw [if_neg c1, q_chk (by omega) (by decide)]
        by_cases c2 : lg_cmp (M 67 (ix (nI j))) (M 43 42) = 0
        · left; rw [if_pos c2]; exact ⟨_, rfl⟩
        · right; rw [if_neg c2]; exact ⟨by omega, nI (j + 1), by rw [bnd_eq, nI_1], by omega, rfl⟩)
  rw [nI_0] at this
  exact this
/-! one place of a packed turn anew -/
theorem or_out {x w c : Int64} (h : w &&& c = 0) : (x ||| w) &&& c = x &&& c := by
  apply Int64.toBitVec_inj.mp
  have e2 : w.toBitVec &&& c.toBitVec = 0#64 := congrArg Int64.toBitVec h
  show (x.toBitVec ||| w.toBitVec) &&& c.toBitVec = x.toBitVec &&& c.toBitVec
  refine BitVec.eq_of_getLsbD_eq (fun i hi => ?_)
  have e3 : (w.toBitVec &&& c.toBitVec).getLsbD i = false := by rw [e2]; exact BitVec.getLsbD_zero
  rw [BitVec.getLsbD_and] at e3
  rw [BitVec.getLsbD_and, BitVec.getLsbD_and, BitVec.getLsbD_or]
  cases hc : c.toBitVec.getLsbD i
  · rw [Bool.and_false, Bool.and_false]
  · rw [hc, Bool.and_true] at e3
    rw [e3, Bool.or_false]
theorem nib_out : ∀ w, w < 16 → ∀ i, i < 10 → lshl (lN w) (nI (36 - 4 * i)) &&& (lshl 15 (nI (36 - 4 * i)) ^^^ (-1)) = 0 := by decide +kernel
theorem with_any {f : Nat → Nat} {i v : Nat} (hf : ∀ i, f i < 16) (hi : i < 10) (hv : v < 16) : f_X6_with (tz f) (nI i) (nI v) = some (tz (us f i v)) := by
  have hz : ∀ j, us f i 0 j < 16 := fun j => by
    unfold us
    split
    · omega
    · exact hf j
  have e0 : us (us f i 0) i (f i) = f := by
    funext j
    unfold us
    by_cases c : j = i
    · rw [if_pos c, c]
    · rw [if_neg c, if_neg c]
  have e1 : us (us f i 0) i v = us f i v := by
    funext j
    unfold us
    by_cases c : j = i
    · rw [if_pos c, if_pos c]
    · rw [if_neg c, if_neg c, if_neg c]
  have h1 := tz_or (f := us f i 0) (j := i) (v := f i) hz hi us_s (hf i)
  have h2 := with_eq (f := us f i 0) (v := v) hz hi us_s hv
  rw [e0] at h1
  rw [e1] at h2
  unfold f_X6_with at h2 ⊢
  rw [bnd_eq, q_36 i hi] at h2 ⊢
  rw [← h1, or_out (nib_out _ (hf i) i hi)]
  exact h2
end LW
