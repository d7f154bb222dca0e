/-! Rows of ints in memory -/
theorem forL {σ ρ : Type} (f : Nat → σ → Option ρ) (s : Nat → σ) (m : Nat) (R : Option ρ) (hend : ∀ fu, f (fu + 1) (s m) = R) (hstep : ∀ fu i, i < m → f (fu + 1) (s i) = f fu (s (i + 1))) : ∀ d i fu, i + d = m → d < fu → f fu (s i) = R := by
  intro d
  induction d with
  | zero =>
    intro i fu h1 h2
    obtain ⟨fu, rfl⟩ : ∃ m, fu = m + 1 := ⟨fu - 1, by omega⟩
    rw [show i = m by omega]; exact hend fu
  | succ d ih =>
    intro i fu h1 h2
    obtain ⟨fu, rfl⟩ : ∃ m, fu = m + 1 := ⟨fu - 1, by omega⟩
    rw [hstep fu i (by omega)]
    exact ih (i + 1) fu (by omega) (by omega)
theorem for0 {σ ρ : Type} (f : Nat → σ → Option ρ) (s : Nat → σ) (m : Nat) (R : Option ρ) (hm : m < 1000000) (hend : ∀ fu, f (fu + 1) (s m) = R) (hstep : ∀ fu i, i < m → f (fu + 1) (s i) = f fu (s (i + 1))) : f FU (s 0) = R :=
  forL f s m R hend hstep m 0 FU (by omega) (by unfold FU; omega)
/-- m ints are written from wh on -/
def wr (I : MI) (to wh m : Nat) (f : Nat → Int32) : MI := fun p j => if p = to ∧ wh ≤ j ∧ j < wh + m then f (j - wh) else I p j
theorem wr_0 {I : MI} {to wh : Nat} {f : Nat → Int32} : wr I to wh 0 f = I := by
  funext p j
  exact if_neg (by omega)
theorem wr_s {I : MI} {to wh i : Nat} {f : Nat → Int32} {v : Int32} (h : v = f i) : up2 (wr I to wh i f) to (wh + i) v = wr I to wh (i + 1) f := by
  funext p j
  unfold up2 wr
  by_cases h1 : p = to
  · rw [if_pos h1]
    by_cases h2 : j = wh + i
    · rw [if_pos h2, if_pos ⟨h1, by omega, by omega⟩, h, h2, show wh + i - wh = i by omega]
    · rw [if_neg h2]
      by_cases h3 : p = to ∧ wh ≤ j ∧ j < wh + i
      · rw [if_pos h3, if_pos ⟨h1, by omega, by omega⟩]
      · rw [if_neg h3, if_neg (by omega)]
  · rw [if_neg h1, if_neg (by omega), if_neg (by omega)]
theorem wr_s0 {I : MI} {to i : Nat} {f : Nat → Int32} {v : Int32} (h : v = f i) : up2 (wr I to 0 i f) to i v = wr I to 0 (i + 1) f := by
  have := wr_s (I := I) (to := to) (wh := 0) (i := i) (f := f) h
  rwa [Nat.zero_add] at this
theorem wr_ne {I : MI} {to wh m p : Nat} {f : Nat → Int32} (h : p ≠ to) : wr I to wh m f p = I p := by
  funext j
  exact if_neg (fun g => h g.1)
theorem wr_in {I : MI} {to wh m j : Nat} {f : Nat → Int32} (h : wh ≤ j) (h2 : j < wh + m) : wr I to wh m f to j = f (j - wh) := if_pos ⟨rfl, h, h2⟩
theorem wr_at {I : MI} {to wh m j : Nat} {f : Nat → Int32} (h2 : j < m) : wr I to wh m f to (wh + j) = f j := by
  rw [wr_in (by omega) (by omega), show wh + j - wh = j by omega]
theorem wr_out {I : MI} {to wh m p j : Nat} {f : Nat → Int32} (h : j < wh ∨ wh + m ≤ j) : wr I to wh m f p j = I p j := if_neg (by omega)
theorem ge10 {i : Nat} (h : i < 10) : ¬ (10 : Int32) ≤ nI i := nI_ge (b := 10) h (by decide)
def Row (I : MI) (a off : Nat) (p : Nat → Nat) : Prop := ∀ k, k < 10 → I a (off + k) = nI (p k)
def wp (I : MI) (to wh : Nat) (p : Nat → Nat) : MI := wr I to wh 10 (fun j => nI (p j))
theorem Row_wp {I : MI} {to wh : Nat} {p : Nat → Nat} : Row (wp I to wh p) to wh p := fun _ h => wr_at h
theorem wp_ne {I : MI} {to wh p : Nat} {q : Nat → Nat} (h : p ≠ to) : wp I to wh q p = I p := wr_ne h
theorem Row_ne {I : MI} {to wh a off : Nat} {p q : Nat → Nat} (h : a ≠ to) (hr : Row I a off p) : Row (wp I to wh q) a off p := fun k hk => by
  rw [wp_ne h]; exact hr k hk
theorem Row_of {I I' : MI} {a off : Nat} {p : Nat → Nat} (h : I' a = I a) (hr : Row I a off p) : Row I' a off p := fun k hk => by
  rw [h]; exact hr k hk
theorem Row0 {I : MI} {a : Nat} {p : Nat → Nat} (h : Row I a 0 p) {k : Nat} (hk : k < 10) : I a k = nI (p k) := by
  have := h k hk
  rwa [Nat.zero_add] at this
theorem Row_inj {I : MI} {a off : Nat} {p q : Nat → Nat} (hp : IsP 10 p) (hq : IsP 10 q) (h1 : Row I a off p) (h2 : Row I a off q) : p = q := by
  refine IsP_ext hp hq (fun i hi => ?_)
  have := (h1 i hi).symm.trans (h2 i hi)
  rw [q_eq (by have := hp.1 i hi; omega) (by have := hq.1 i hi; omega)] at this
  exact this
def ivM (I : MI) (b : Nat) (p : Nat → Nat) (i : Nat) : MI := fun c j => if c = b ∧ j < 10 ∧ iv p j < i then nI (iv p j) else I c j
section RW
variable {I : MI} {L : ML} {p q : Nat → Nat}
theorem isHome_eq {a : Nat} : f_X8_isHome a I L = some (wp I a 0 idp, L) := by
  unfold f_X8_isHome
  have := for0 (fun fu s => f_X8_isHome_2 a L fu s.1 s.2) (fun i => (nI i, wr I a 0 i nI)) 10 (some (wp I a 0 idp, L)) (by decide)
    (fun fu => by
      show f_X8_isHome_2 a L (fu + 1) (nI 10) (wr I a 0 10 nI) = _
      unfold f_X8_isHome_2
      rw [if_pos (by decide)]; rfl)
    (fun fu i hi => by
      show f_X8_isHome_2 a L (fu + 1) (nI i) (wr I a 0 i nI) = f_X8_isHome_2 a L fu (nI (i + 1)) (wr I a 0 (i + 1) nI)
      rw [f_X8_isHome_2, if_neg (ge10 hi), q_chk hi (by decide), bnd_eq, bnd_eq, q_ix (by omega), wr_s0 rfl, nI_1])
  rw [wr_0] at this
  exact this
theorem copies_eq {a an b bn x y : Nat} (hab : a ≠ b) (hx : x + 10 ≤ an) (hy : y + 10 ≤ bn) (han : an < 2 ^ 20) (hbn : bn < 2 ^ 20) : f_X8_copies a an (nI x) b bn (nI y) I L = some (wr I b y 10 (fun j => I a (x + j)), L) := by
  unfold f_X8_copies
  have := for0 (fun fu s => f_X8_copies_3 a an b bn (nI x) (nI y) L fu s.1 s.2) (fun i => (nI i, wr I b y i (fun j => I a (x + j)))) 10 (some (wr I b y 10 (fun j => I a (x + j)), L)) (by decide)
    (fun fu => by
      show f_X8_copies_3 a an b bn (nI x) (nI y) L (fu + 1) (nI 10) _ = _
      unfold f_X8_copies_3
      rw [if_pos (by decide)])
    (fun fu i hi => by
      show f_X8_copies_3 a an b bn (nI x) (nI y) L (fu + 1) (nI i) (wr I b y i (fun j => I a (x + j))) = f_X8_copies_3 a an b bn (nI x) (nI y) L fu (nI (i + 1)) (wr I b y (i + 1) (fun j => I a (x + j)))
      rw [f_X8_copies_3, if_neg (ge10 hi), nI_add, nI_add, q_chk (show x + i < an by omega) (by omega), q_chk (show y + i < bn by omega) (by omega), bnd_eq, bnd_eq, q_ix (by omega), q_ix (by omega), wr_s (by rw [wr_ne hab]), nI_1])
  rw [wr_0] at this
  exact this
theorem copiesR {a an b bn x y : Nat} (hr : Row I a x p) (hab : a ≠ b) (hx : x + 10 ≤ an) (hy : y + 10 ≤ bn) (han : an < 2 ^ 20) (hbn : bn < 2 ^ 20) : f_X8_copies a an (nI x) b bn (nI y) I L = some (wp I b y p, L) := by
  rw [copies_eq hab hx hy han hbn]
  have : wr I b y 10 (fun j => I a (x + j)) = wp I b y p := by
    funext c j
    unfold wp wr
    by_cases h : c = b ∧ y ≤ j ∧ j < y + 10
    · rw [if_pos h, if_pos h]; exact hr _ (by omega)
    · rw [if_neg h, if_neg h]
  rw [this]
theorem copies10 {a b : Nat} (hr : Row I a 0 p) (hab : a ≠ b) : f_X8_copies a 10 0 b 10 0 I L = some (wp I b 0 p, L) :=
  copiesR (x := 0) (y := 0) hr hab (by decide) (by decide) (by decide) (by decide)
theorem copies0y {a an b bn y : Nat} (hr : Row I a 0 p) (hab : a ≠ b) (hx : 10 ≤ an) (hy : y + 10 ≤ bn) (han : an < 2 ^ 20) (hbn : bn < 2 ^ 20) : f_X8_copies a an 0 b bn (nI y) I L = some (wp I b y p, L) :=
  copiesR (x := 0) hr hab (by omega) hy han hbn
theorem copiesx0 {a an b bn x : Nat} (hr : Row I a x p) (hab : a ≠ b) (hx : x + 10 ≤ an) (hy : 10 ≤ bn) (han : an < 2 ^ 20) (hbn : bn < 2 ^ 20) : f_X8_copies a an (nI x) b bn 0 I L = some (wp I b 0 p, L) :=
  copiesR (y := 0) hr hab hx (by omega) han hbn
theorem makes_eq {a b c : Nat} (ha : Row I a 0 p) (hb : Row I b 0 q) (hp : IsP 10 p) (hac : a ≠ c) (hbc : b ≠ c) : f_X8_makes a b c I L = some (wp I c 0 (cp p q), L) := by
  unfold f_X8_makes
  have := for0 (fun fu s => f_X8_makes_2 a b c L fu s.1 s.2) (fun i => (nI i, wr I c 0 i (fun j => nI (cp p q j)))) 10 (some (wp I c 0 (cp p q), L)) (by decide)
    (fun fu => by
      show f_X8_makes_2 a b c L (fu + 1) (nI 10) _ = _
      unfold f_X8_makes_2
      rw [if_pos (by decide)]; rfl)
    (fun fu i hi => by
      show f_X8_makes_2 a b c L (fu + 1) (nI i) (wr I c 0 i (fun j => nI (cp p q j))) = f_X8_makes_2 a b c L fu (nI (i + 1)) (wr I c 0 (i + 1) (fun j => nI (cp p q j)))
      have hpi := hp.1 i hi
      rw [f_X8_makes_2, if_neg (ge10 hi), q_chk hi (by decide), q_ix (by omega), wr_ne hac, Row0 ha hi, q_chk hpi (by decide), q_chk hi (by decide), bnd_eq, bnd_eq, q_ix (by omega), wr_ne hbc, Row0 hb hpi, wr_s0 (v := nI (q (p i))) (f := fun j => nI (cp p q j)) rfl, nI_1])
  rw [wr_0] at this
  exact this
theorem inverts_eq {a b : Nat} (ha : Row I a 0 p) (hp : IsP 10 p) (hab : a ≠ b) : f_X8_inverts a b I L = some (wp I b 0 (iv p), L) := by
  unfold f_X8_inverts
  have hv := IsP_iv (Nat.le_refl 10) hp
  have := for0 (fun fu s => f_X8_inverts_2 a b L fu s.1 s.2) (fun i => (nI i, ivM I b p i)) 10 (some (wp I b 0 (iv p), L)) (by decide)
    (fun fu => by
      show f_X8_inverts_2 a b L (fu + 1) (nI 10) (ivM I b p 10) = _
      unfold f_X8_inverts_2
      rw [if_pos (by decide)]
      refine congrArg (fun x => some (x, L)) ?_
      funext c j
      unfold wp wr ivM
      by_cases h : c = b ∧ j < 10
      · rw [if_pos ⟨h.1, h.2, hv.1 j h.2⟩, if_pos ⟨h.1, by omega, by omega⟩]; rfl
      · rw [if_neg (fun g => h ⟨g.1, g.2.1⟩), if_neg (fun g => h ⟨g.1, by omega⟩)])
    (fun fu i hi => by
      show f_X8_inverts_2 a b L (fu + 1) (nI i) (ivM I b p i) = f_X8_inverts_2 a b L fu (nI (i + 1)) (ivM I b p (i + 1))
      have hpi := hp.1 i hi
      have e : ivM I b p i a i = nI (p i) := (if_neg (fun g => hab g.1)).trans (Row0 ha hi)
      rw [f_X8_inverts_2, if_neg (ge10 hi), q_chk hi (by decide), q_ix (by omega), e, q_chk hpi (by decide), bnd_eq, bnd_eq, q_ix (by omega), nI_1]
      refine congrArg (fun x => f_X8_inverts_2 a b L fu (nI (i + 1)) x) ?_
      funext c j
      unfold up2 ivM
      by_cases hc : c = b
      · rw [if_pos hc]
        by_cases hj : j = p i
        · have : iv p j = i := by rw [hj]; exact iv_l (Nat.le_refl 10) hp i
          rw [if_pos hj, if_pos ⟨hc, by omega, by omega⟩, this]
        · rw [if_neg hj]
          by_cases h : c = b ∧ j < 10 ∧ iv p j < i
          · rw [if_pos h, if_pos ⟨h.1, h.2.1, by omega⟩]
          · rw [if_neg h, if_neg]
            intro ⟨h1, h2, h3⟩
            have : iv p j = i := by omega
            exact hj (by rw [← this]; exact (iv_r (Nat.le_refl 10) hp j).symm)
      · rw [if_neg hc, if_neg (fun g => hc g.1), if_neg (fun g => hc g.1)])
  have e0 : ivM I b p 0 = I := by
    funext c j; exact if_neg (by omega)
  rw [e0] at this
  exact this
theorem areSame_l {a b : Nat} (ha : Row I a 0 p) (hb : Row I b 0 q) (hp : IsP 10 p) (hq : IsP 10 q) : ∀ d fu i (c : Bool), i + d = 10 → d < fu → (c = true ↔ ∀ k, i ≤ k → k < 10 → p k = q k) → f_X8_areSame_2 a b I L fu (nI i) = some c := by
  intro d
  induction d with
  | zero =>
    intro fu i c h1 h2 hc
    obtain ⟨fu, rfl⟩ : ∃ m, fu = m + 1 := ⟨fu - 1, by omega⟩
    rw [f_X8_areSame_2, show i = 10 by omega, if_pos (by decide)]
    exact congrArg some (hc.mpr (fun k h3 h4 => by omega)).symm
  | succ d ih =>
    intro fu i c h1 h2 hc
    obtain ⟨fu, rfl⟩ : ∃ m, fu = m + 1 := ⟨fu - 1, by omega⟩
    have hi : i < 10 := by omega
    have h5 := hp.1 i hi
    have h6 := hq.1 i hi
    rw [f_X8_areSame_2, if_neg (ge10 hi), q_chk hi (by decide), q_chk hi (by decide), q_ix (by omega), Row0 ha hi, Row0 hb hi, ifc (q_eq (by omega) (by omega)), bnd_eq, nI_1]
    by_cases h : p i = q i
    · rw [if_pos h]
      refine ih fu (i + 1) c (by omega) (by omega) (hc.trans ⟨fun g k h3 h4 => g k (by omega) h4, fun g k h3 h4 => ?_⟩)
      by_cases e : k = i
      · rw [e]; exact h
      · exact g k (by omega) h4
    · rw [if_neg h]
      have : ¬ c = true := fun g => h (hc.mp g i (by omega) (by omega))
      exact congrArg some (by cases c <;> simp_all)
theorem areSame_eq {a b : Nat} (ha : Row I a 0 p) (hb : Row I b 0 q) (hp : IsP 10 p) (hq : IsP 10 q) {c : Bool} (hc : c = true ↔ p = q) : f_X8_areSame a b I L = some c := by
  unfold f_X8_areSame
  exact areSame_l ha hb hp hq 10 FU 0 c (by omega) (by unfold FU; omega) (hc.trans ⟨fun g k _ _ => congrFun g k, fun g => IsP_ext hp hq (fun i hi => g i (by omega) hi)⟩)
theorem stays_l {a : Nat} (ha : Row I a 0 p) (hp : IsP 10 p) : ∀ d fu i (c : Bool), i + d = 10 → d < fu → (c = true ↔ ∀ k, i ≤ k → k < 10 → p k = k) → f_X8_stays_2 a I L fu (nI i) = some c := by
  intro d
  induction d with
  | zero =>
    intro fu i c h1 h2 hc
    obtain ⟨fu, rfl⟩ : ∃ m, fu = m + 1 := ⟨fu - 1, by omega⟩
    rw [f_X8_stays_2, show i = 10 by omega, if_pos (by decide)]
    exact congrArg some (hc.mpr (fun k h3 h4 => by omega)).symm
  | succ d ih =>
    intro fu i c h1 h2 hc
    obtain ⟨fu, rfl⟩ : ∃ m, fu = m + 1 := ⟨fu - 1, by omega⟩
    have hi : i < 10 := by omega
    have h5 := hp.1 i hi
    rw [f_X8_stays_2, if_neg (ge10 hi), q_chk hi (by decide), q_ix (by omega), Row0 ha hi, ifc (q_eq (by omega) (by omega)), bnd_eq, nI_1]
    by_cases h : p i = i
    · rw [if_pos h]
      refine ih fu (i + 1) c (by omega) (by omega) (hc.trans ⟨fun g k h3 h4 => g k (by omega) h4, fun g k h3 h4 => ?_⟩)
      by_cases e : k = i
      · rw [e]; exact h
      · exact g k (by omega) h4
    · rw [if_neg h]
      have : ¬ c = true := fun g => h (hc.mp g i (by omega) (by omega))
      exact congrArg some (by cases c <;> simp_all)
theorem stays_eq {a : Nat} (ha : Row I a 0 p) (hp : IsP 10 p) {c : Bool} (hc : c = true ↔ p = idp) : f_X8_stays a I L = some c := by
  unfold f_X8_stays
  exact stays_l ha hp 10 FU 0 c (by omega) (by unfold FU; omega) (hc.trans ⟨fun g k _ _ => congrFun g k, fun g => IsP_ext hp (IsP_id 10) (fun i hi => g i (by omega) hi)⟩)
end RW
