/-! Turns: what the class makes of packed turns -/
def cn (n : Nat) (p : Nat → Nat) : Nat → Nat := fun i => if i < n then p i else 0
def tn (n : Nat) (p : Nat → Nat) : Int64 := tz (cn n p)
theorem cn_in {n i : Nat} {p : Nat → Nat} (h : i < n) : cn n p i = p i := if_pos h
theorem cn_lt {n : Nat} {p : Nat → Nat} (hn : n ≤ 10) (h : IsP n p) : ∀ i, cn n p i < 16 := fun i => by
  unfold cn
  split
  · have := h.1 i (by assumption); omega
  · decide
theorem tn_inj {n : Nat} {p q : Nat → Nat} (hn : n ≤ 10) (hp : IsP n p) (hq : IsP n q) : tn n p = tn n q ↔ p = q := by
  constructor
  · intro h
    refine IsP_ext hp hq (fun i hi => ?_)
    have := (tz_inj (cn_lt hn hp) (cn_lt hn hq)).mp h i (by omega)
    rwa [cn_in hi, cn_in hi] at this
  · intro h; rw [h]
theorem tn_img {n i : Nat} {p : Nat → Nat} (hn : n ≤ 10) (h : IsP n p) (hi : i < n) : f_X6_image (tn n p) (nI i) = some (nI (p i)) := by
  unfold tn
  rw [image_eq (cn_lt hn h) (by omega), cn_in hi]
theorem tn_nn {n : Nat} {p : Nat → Nat} (hn : n ≤ 10) (h : IsP n p) : ¬ tn n p < 0 := tz_nn (cn_lt hn h)
/-- what is made point by point, at the places that w tells -/
def pt (n : Nat) (w q : Nat → Nat) (i : Nat) : Nat → Nat := fun k => if k < n ∧ iv w k < i then q k else 0
theorem pt_0 {n : Nat} {w q : Nat → Nat} : tz (pt n w q 0) = 0 := by
  have : tz (pt n w q 0) = tz (fun _ => 0) := congrArg lN (E_ext 10 (fun i _ => if_neg (by omega)))
  rw [this]
  rfl
theorem pt_end {n : Nat} {w q : Nat → Nat} (hn : n ≤ 10) (hw : IsP n w) : tz (pt n w q n) = tn n q := by
  refine congrArg lN (E_ext 10 (fun i _ => ?_))
  unfold pt cn
  by_cases h : i < n
  · rw [if_pos ⟨h, (IsP_iv hn hw).1 i h⟩, if_pos h]
  · rw [if_neg (fun g => h g.1), if_neg h]
theorem pt_lt {n i : Nat} {w q : Nat → Nat} (hn : n ≤ 10) (hq : IsP n q) : ∀ k, pt n w q i k < 16 := fun k => by
  unfold pt
  split
  · rename_i h; have := hq.1 k h.1; omega
  · decide
theorem pt_step {n i j v : Nat} {w q : Nat → Nat} (hn : n ≤ 10) (hw : IsP n w) (hq : IsP n q) (hi : i < n) (hj : j = w i) (hv : v = q j) : tz (pt n w q i) ||| lshl (lN v) (nI (36 - 4 * j)) = tz (pt n w q (i + 1)) := by
  have hjn : j < n := by rw [hj]; exact hw.1 i hi
  have hiv : iv w j = i := iv_of hn hw hj.symm
  rw [tz_or (pt_lt hn hq) (by omega) (if_neg (by omega)) (by have := hq.1 j hjn; omega)]
  refine congrArg lN (E_ext 10 (fun k _ => ?_))
  unfold us
  by_cases h : k = j
  · rw [if_pos h, h]
    unfold pt
    rw [if_pos ⟨hjn, by omega⟩, hv]
  · rw [if_neg h]
    unfold pt
    by_cases h1 : k < n ∧ iv w k < i
    · rw [if_pos h1, if_pos ⟨h1.1, by omega⟩]
    · rw [if_neg h1]
      rw [if_neg]
      intro ⟨a, b⟩
      have : iv w k = i := by omega
      exact h (by rw [hj, ← this, iv_r hn hw])
theorem q_le {a b : Nat} (ha : a < 2 ^ 31) (hb : b < 2 ^ 31) : (nI a ≤ nI b) = (a ≤ b) := propext (nI_leI ha hb)
theorem q_lt {a b : Nat} (ha : a < 2 ^ 31) (hb : b < 2 ^ 31) : (nI a < nI b) = (a < b) := propext (nI_ltI ha hb)
theorem q_eq {a b : Nat} (ha : a < 2 ^ 31) (hb : b < 2 ^ 31) : (nI a = nI b) = (a = b) := propext (nI_eq ha hb)
theorem ob {α β : Type} {x : Option α} {v : α} {f : α → Option β} (h : x = some v) : Option.bind x f = f v := by rw [h]; rfl
theorem ifc {α : Type} {P Q : Prop} [Decidable P] [Decidable Q] {x y : α} (h : P = Q) : (if P then x else y) = (if Q then x else y) := by
  by_cases hq : Q
  · rw [if_pos hq, if_pos (h ▸ hq)]
  · rw [if_neg hq, if_neg (fun hp => hq (h ▸ hp))]
section TU
variable {n : Nat} {a b p : Nat → Nat}
theorem identity_l (hn : n ≤ 10) : ∀ d fu i, i + d = n → d < fu → f_X6_identity_4 (nI n) fu (tz (pt n idp idp i)) (nI i) = some (tn n idp) := by
  intro d
  induction d with
  | zero =>
    intro fu i h1 h2
    obtain ⟨fu, rfl⟩ : ∃ m, fu = m + 1 := ⟨fu - 1, by omega⟩
    unfold f_X6_identity_4
    rw [if_pos (by rw [q_le (by omega) (by omega)]; omega), show i = n by omega, pt_end hn (IsP_id n)]
  | succ d ih =>
    intro fu i h1 h2
    obtain ⟨fu, rfl⟩ : ∃ m, fu = m + 1 := ⟨fu - 1, by omega⟩
    unfold f_X6_identity_4
    rw [if_neg (by rw [q_le (by omega) (by omega)]; omega)]
    simp only [bnd_eq]
    rw [nI_l (by omega), q_36 i (by omega), pt_step (i := i) (j := i) (v := i) hn (IsP_id n) (IsP_id n) (by omega) rfl rfl, nI_1]
    exact ih fu (i + 1) (by omega) (by omega)
theorem identity_eq (hn : n ≤ 10) : f_X6_identity (nI n) = some (tn n idp) := by
  have := identity_l hn n FU 0 (by omega) (by unfold FU; omega)
  rw [pt_0] at this
  exact this
def sh (i : Nat) : Int32 := 36 - 4 * nI i
theorem sh_le : ∀ i, i < 11 → ∀ j, j < 11 → (sh i ≤ sh j ↔ j ≤ i) := by decide +kernel
theorem sh_0 : sh 0 = 36 := by decide +kernel
theorem sh_nx : ∀ i, i < 10 → sh i + (-4) = sh (i + 1) := by decide +kernel
theorem compose_l (hn : n ≤ 10) (ha : IsP n a) (hb : IsP n b) : ∀ d fu i, i + d = n → d < fu → f_X6_compose_16 (tn n a) (tn n b) (sh n) fu (tz (pt n idp (cp a b) i)) (sh i) = some (tn n (cp a b)) := by
  intro d
  induction d with
  | zero =>
    intro fu i h1 h2
    obtain ⟨fu, rfl⟩ : ∃ m, fu = m + 1 := ⟨fu - 1, by omega⟩
    unfold f_X6_compose_16
    rw [if_pos ((sh_le i (by omega) n (by omega)).mpr (by omega)), show i = n by omega, pt_end hn (IsP_id n)]
  | succ d ih =>
    intro fu i h1 h2
    obtain ⟨fu, rfl⟩ : ∃ m, fu = m + 1 := ⟨fu - 1, by omega⟩
    unfold f_X6_compose_16
    rw [if_neg (fun h => by have := (sh_le i (by omega) n (by omega)).mp h; omega)]
    simp only [bnd_eq]
    have hai := ha.1 i (by omega)
    have e1 : (Int64.toInt32 (lushr (tn n a) (sh i))) &&& 15 = nI (a i) := by
      unfold sh tn
      rw [q_36 i (by omega), tz_img (cn_lt hn ha) (by omega), cn_in (by omega)]
    rw [e1, q_36 (a i) (by omega)]
    have e2 : lushr (tn n b) (nI (36 - 4 * a i)) &&& 15 = lN (cp a b i) := by
      unfold tn
      rw [tz_nib (cn_lt hn hb) (by omega), cn_in hai]; rfl
    rw [e2, sh_nx i (by omega)]
    rw [show sh i = nI (36 - 4 * i) from q_36 i (by omega), pt_step (i := i) (j := i) (v := cp a b i) hn (IsP_id n) (IsP_cp ha hb) (by omega) rfl rfl]
    exact ih fu (i + 1) (by omega) (by omega)
theorem compose_eq (hn : n ≤ 10) (ha : IsP n a) (hb : IsP n b) : f_X6_compose (tn n a) (tn n b) (nI n) = some (tn n (cp a b)) := by
  have := compose_l hn ha hb n FU 0 (by omega) (by unfold FU; omega)
  rw [pt_0, sh_0] at this
  unfold f_X6_compose
  rw [bnd_eq]
  unfold sh at this
  exact this
theorem invert_l (hn : n ≤ 10) (ha : IsP n a) : ∀ d fu i, i + d = n → d < fu → f_X6_invert_5 (tn n a) (nI n) fu (tz (pt n a (iv a) i)) (nI i) = some (tn n (iv a)) := by
  intro d
  induction d with
  | zero =>
    intro fu i h1 h2
    obtain ⟨fu, rfl⟩ : ∃ m, fu = m + 1 := ⟨fu - 1, by omega⟩
    unfold f_X6_invert_5
    rw [if_pos (by rw [q_le (by omega) (by omega)]; omega), show i = n by omega, pt_end hn ha]
  | succ d ih =>
    intro fu i h1 h2
    obtain ⟨fu, rfl⟩ : ∃ m, fu = m + 1 := ⟨fu - 1, by omega⟩
    unfold f_X6_invert_5
    rw [if_neg (by rw [q_le (by omega) (by omega)]; omega)]
    simp only [bnd_eq]
    have hai := ha.1 i (by omega)
    have e1 : (Int64.toInt32 (lushr (tn n a) (nI (36 - 4 * i)))) &&& 15 = nI (a i) := by
      unfold tn
      rw [tz_img (cn_lt hn ha) (by omega), cn_in (by omega)]
    rw [q_36 i (by omega), e1, q_36 (a i) (by omega), nI_l (by omega), pt_step hn ha (IsP_iv hn ha) (by omega) rfl (iv_l hn ha i).symm, nI_1]
    exact ih fu (i + 1) (by omega) (by omega)
theorem invert_eq (hn : n ≤ 10) (ha : IsP n a) : f_X6_invert (tn n a) (nI n) = some (tn n (iv a)) := by
  have := invert_l hn ha n FU 0 (by omega) (by unfold FU; omega)
  rw [pt_0] at this
  exact this
/-- the inverse of b, a, b -/
def cj (a b : Nat → Nat) : Nat → Nat := cp (cp (iv b) a) b
theorem IsP_cj (hn : n ≤ 10) (ha : IsP n a) (hb : IsP n b) : IsP n (cj a b) := IsP_cp (IsP_cp (IsP_iv hn hb) ha) hb
theorem conjugate_l (hn : n ≤ 10) (ha : IsP n a) (hb : IsP n b) : ∀ d fu i, i + d = n → d < fu → f_X6_conjugate_6 (tn n a) (tn n b) (nI n) fu (tz (pt n b (cj a b) i)) (nI i) = some (tn n (cj a b)) := by
  intro d
  induction d with
  | zero =>
    intro fu i h1 h2
    obtain ⟨fu, rfl⟩ : ∃ m, fu = m + 1 := ⟨fu - 1, by omega⟩
    unfold f_X6_conjugate_6
    rw [if_pos (by rw [q_le (by omega) (by omega)]; omega), show i = n by omega, pt_end hn hb]
  | succ d ih =>
    intro fu i h1 h2
    obtain ⟨fu, rfl⟩ : ∃ m, fu = m + 1 := ⟨fu - 1, by omega⟩
    unfold f_X6_conjugate_6
    rw [if_neg (by rw [q_le (by omega) (by omega)]; omega)]
    have hai := ha.1 i (by omega)
    have hbi := hb.1 i (by omega)
    have hbai := hb.1 _ hai
    rw [ob (tn_img hn ha (show i < n by omega)), ob (tn_img hn hb hai), ob (tn_img hn hb (show i < n by omega)), bnd_eq, bnd_eq]
    rw [q_36 (b i) (by omega), nI_l (by omega), pt_step hn hb (IsP_cj hn ha hb) (by omega) rfl (by show b (a i) = b (a (iv b (b i))); rw [iv_l hn hb]), nI_1]
    exact ih fu (i + 1) (by omega) (by omega)
theorem conjugate_eq (hn : n ≤ 10) (ha : IsP n a) (hb : IsP n b) : f_X6_conjugate (tn n a) (tn n b) (nI n) = some (tn n (cj a b)) := by
  have := conjugate_l hn ha hb n FU 0 (by omega) (by unfold FU; omega)
  rw [pt_0] at this
  exact this
/-- the inverses of both, then both -/
def cm (a b : Nat → Nat) : Nat → Nat := cp (iv (cp b a)) (cp a b)
theorem IsP_cm (hn : n ≤ 10) (ha : IsP n a) (hb : IsP n b) : IsP n (cm a b) := IsP_cp (IsP_iv hn (IsP_cp hb ha)) (IsP_cp ha hb)
theorem commutatorOf_eq (hn : n ≤ 10) (ha : IsP n a) (hb : IsP n b) : f_X6_commutatorOf (tn n a) (tn n b) (nI n) = some (tn n (cm a b)) := by
  unfold f_X6_commutatorOf
  simp only [compose_eq hn hb ha, Option.bind_some, invert_eq hn (IsP_cp hb ha), compose_eq hn ha hb, compose_eq hn (IsP_iv hn (IsP_cp hb ha)) (IsP_cp ha hb)]
  rfl
theorem commute_l (hn : n ≤ 10) (ha : IsP n a) (hb : IsP n b) : ∀ d fu i (c : Bool), i + d = n → d < fu → (c = true ↔ ∀ k, i ≤ k → k < n → b (a k) = a (b k)) → f_X6_commute_3 (tn n a) (tn n b) (nI n) fu (nI i) = some c := by
  intro d
  induction d with
  | zero =>
    intro fu i c h1 h2 hc
    obtain ⟨fu, rfl⟩ : ∃ m, fu = m + 1 := ⟨fu - 1, by omega⟩
    unfold f_X6_commute_3
    rw [if_pos (by rw [q_le (by omega) (by omega)]; omega)]
    exact congrArg some (hc.mpr (fun k h3 h4 => by omega)).symm
  | succ d ih =>
    intro fu i c h1 h2 hc
    obtain ⟨fu, rfl⟩ : ∃ m, fu = m + 1 := ⟨fu - 1, by omega⟩
    unfold f_X6_commute_3
    rw [if_neg (by rw [q_le (by omega) (by omega)]; omega)]
    have hai := ha.1 i (by omega)
    have hbi := hb.1 i (by omega)
    have hbai := hb.1 _ hai
    have habi := ha.1 _ hbi
    rw [ob (tn_img hn ha (show i < n by omega)), ob (tn_img hn hb hai), ob (tn_img hn hb (show i < n by omega)), ob (tn_img hn ha hbi)]
    rw [ifc (q_eq (by omega) (by omega)), bnd_eq, nI_1]
    by_cases h : b (a i) = a (b i)
    · rw [if_pos h]
      refine ih fu (i + 1) c (by omega) (by omega) (hc.trans ⟨fun g k h3 h4 => g k (by omega) h4, fun g k h3 h4 => ?_⟩)
      by_cases e : k = i
      · rw [e]; exact h
      · exact g k (by omega) h4
    · rw [if_neg h]
      have : ¬ c = true := fun g => h (hc.mp g i (by omega) (by omega))
      exact congrArg some (by cases c <;> simp_all)
theorem commute_eq (hn : n ≤ 10) (ha : IsP n a) (hb : IsP n b) {c : Bool} (hc : c = true ↔ cp a b = cp b a) : f_X6_commute (tn n a) (tn n b) (nI n) = some c := by
  unfold f_X6_commute
  refine commute_l hn ha hb n FU 0 c (by omega) (by unfold FU; omega) (hc.trans ⟨fun g k _ _ => congrFun g k, fun g => ?_⟩)
  exact IsP_ext (IsP_cp ha hb) (IsP_cp hb ha) (fun i hi => g i (by omega) hi)
end TU
