/-! The class measures -/
def NX (m : Nat) (mv : Nat → Nat → Nat) (N : Nat) (e nx : Nat → Nat → Nat) : Prop := ∀ s x, s < 2 * m → x < N → nx s x < N ∧ e (nx s x) = cp (e x) (stp mv s)
/-- what breadth has found so far lies in rows of depths, a queue (and last steps) -/
def MB (I : MI) (rd rq : Nat) (N : Nat) (dp kk : Nat → Nat) (i s fin : Nat) (q : Nat → Nat) : Prop :=
  BI N kk i s fin q ∧ (∀ j, j < fin → I rq j = nI (q j)) ∧ (∀ x, x < N → (∃ j, j < fin ∧ q j = x) → I rd x = nI (dp x)) ∧ (∀ x, x < N → (¬ ∃ j, j < fin ∧ q j = x) → I rd x = -1)
def LSm (I : MI) (N : Nat) (kk : Nat → Nat) (fin : Nat) (q : Nat → Nat) : Prop := ∀ x, x < N → (∃ j, j < fin ∧ q j = x) → x ≠ 0 → I 74 x = nI (kk x % 12)
theorem up2_s {α : Type} {f : Nat → Nat → α} {p k : Nat} {v : α} : up2 f p k v p k = v := by unfold up2; rw [if_pos rfl, if_pos rfl]
theorem up2_n {α : Type} {f : Nat → Nat → α} {p k j : Nat} {v : α} (h : j ≠ k) : up2 f p k v p j = f p j := by unfold up2; rw [if_pos rfl, if_neg h]
section MS1
variable {n m N rm : Nat} {mv : Nat → Nat → Nat} {e nx : Nat → Nat → Nat} {dp kk : Nat → Nat}
theorem NX_ex (hn : n ≤ 10) (hmv : ∀ i, i < m → IsP n (mv i)) (he : EL n (Gp n m mv) N e) : ∃ nx, NX m mv N e nx := by
  have h : ∀ z : Nat × Nat, ∃ y, z.1 < 2 * m → z.2 < N → y < N ∧ e y = cp (e z.2) (stp mv z.1) := fun z => by
    by_cases h1 : z.1 < 2 * m
    · by_cases h2 : z.2 < N
      · obtain ⟨y, hy, ey⟩ := he.2.1 _ ((Gp_Sub hn hmv).2.2.1 _ _ (he.1 _ h2) (Gp_stp hn hmv h1))
        exact ⟨y, fun _ _ => ⟨hy, ey⟩⟩
      · exact ⟨0, fun _ g => absurd g h2⟩
    · exact ⟨0, fun g => absurd g h1⟩
  obtain ⟨f, hf⟩ := Classical.axiomOfChoice h
  exact ⟨fun s x => f (s, x), fun s x h1 h2 => hf (s, x) h1 h2⟩
theorem DK_lt (hn : n ≤ 10) (hm : m ≤ 6) (hmv : ∀ i, i < m → IsP n (mv i)) (he : EL n (Gp n m mv) N e) (hD : DK m mv N e dp kk) {x : Nat} (hx : x < N) : dp x < N := by
  have key : ∀ D x, x < N → dp x = D → ∀ d, d ≤ D → ∃ y, y < N ∧ dp y = d := by
    intro D
    induction D with
    | zero => intro x hx h d hd; exact ⟨x, hx, by omega⟩
    | succ D ih =>
      intro x hx h d hd
      by_cases e1 : d = D + 1
      · exact ⟨x, hx, by omega⟩
      · have h0 : x ≠ 0 := fun g => by rw [g, (DK_0 hn hm hmv he hD).1] at h; omega
        obtain ⟨_, y, hy, y1, y2, y3⟩ := DK_par hn hm hmv he hD hx h0
        exact ih y hy (by omega) d (by omega)
  have hc : ∀ d, ∃ y, d < dp x + 1 → y < N ∧ dp y = d := fun d => by
    by_cases hd : d < dp x + 1
    · obtain ⟨y, hy⟩ := key (dp x) x hx rfl d (by omega); exact ⟨y, fun _ => hy⟩
    · exact ⟨0, fun g => absurd g hd⟩
  obtain ⟨f, hf⟩ := Classical.axiomOfChoice hc
  exact le_of_inj f (fun d hd => (hf d hd).1) (fun d d' hd hd' g => by rw [← (hf d hd).2, ← (hf d' hd').2, g])
/-- the step back -/
theorem NX_back (hn : n ≤ 10) (hmv : ∀ i, i < m → IsP n (mv i)) (he : EL n (Gp n m mv) N e) (hX : NX m mv N e nx) {i x : Nat} (hi : i < m) (hx : x < N) : nx (2 * i) (nx (2 * i + 1) x) = x ∧ nx (2 * i + 1) (nx (2 * i) x) = x := by
  have hG := Gp_Sub hn hmv
  have s0 : stp mv (2 * i) = mv i := by unfold stp; rw [if_pos (by omega), show 2 * i / 2 = i by omega]
  have s1 : stp mv (2 * i + 1) = iv (mv i) := by unfold stp; rw [if_neg (by omega), show (2 * i + 1) / 2 = i by omega]
  obtain ⟨a1, a2⟩ := hX (2 * i) x (by omega) hx
  obtain ⟨b1, b2⟩ := hX (2 * i + 1) x (by omega) hx
  obtain ⟨c1, c2⟩ := hX (2 * i) _ (by omega) b1
  obtain ⟨d1, d2⟩ := hX (2 * i + 1) _ (by omega) a1
  rw [s0] at a2 c2
  rw [s1] at b2 d2
  refine ⟨EL_inj he c1 hx ?_, EL_inj he d1 hx ?_⟩
  · rw [c2, b2, cp_as, iv_cp hn (hmv i hi), cp_id]
  · rw [d2, a2, cp_as, cp_iv hn (hmv i hi), cp_id]
theorem followMove_eq {I : MI} {L : ML} {i : Nat} (hn : n ≤ 10) (hmv : ∀ i, i < m → IsP n (mv i)) (hm : m ≤ 6) (he : EL n (Gp n m mv) N e) (hX : NX m mv N e nx) (hLs : Lst I L rm n N e) (hi : i < m) : ∃ I', f_X4_followMove rm (tn n (mv i)) (77 + 2 * i) (77 + (2 * i + 1)) I L = some (I', L) ∧ (∀ p, p ≠ 77 + 2 * i → p ≠ 77 + (2 * i + 1) → I' p = I p) ∧ (∀ x, x < N → I' (77 + 2 * i) x = nI (nx (2 * i) x)) ∧ (∀ x, x < N → I' (77 + (2 * i + 1)) x = nI (nx (2 * i + 1) x)) := by
  have hG := Gp_Sub hn hmv
  obtain ⟨r0, r1, r2, r3, r4, r5⟩ := id hLs
  have s0 : stp mv (2 * i) = mv i := by unfold stp; rw [if_pos (by omega), show 2 * i / 2 = i by omega]
  unfold f_X4_followMove
  have := loop0 (fun fu s => f_X4_followMove_3 rm (77 + 2 * i) (77 + (2 * i + 1)) (tn n (mv i)) L fu s.1 s.2)
    (fun x s => x ≤ N ∧ s.1 = nI x ∧ (∀ p, p ≠ 77 + 2 * i → p ≠ 77 + (2 * i + 1) → s.2 p = I p) ∧ (∀ y, y < x → s.2 (77 + 2 * i) y = nI (nx (2 * i) y)) ∧ (∀ y, y < x → s.2 (77 + (2 * i + 1)) (nx (2 * i) y) = nI y))
    (fun o => ∃ I', o = some (I', L) ∧ (∀ p, p ≠ 77 + 2 * i → p ≠ 77 + (2 * i + 1) → I' p = I p) ∧ (∀ x, x < N → I' (77 + 2 * i) x = nI (nx (2 * i) x)) ∧ (∀ x, x < N → I' (77 + (2 * i + 1)) x = nI (nx (2 * i + 1) x))) N (by omega) (nI 0, I) ⟨Nat.zero_le _, rfl, fun _ _ _ => rfl, fun y hy => by omega, fun y hy => by omega⟩
    (fun fu x s hx hP => by
      obtain ⟨s1, J⟩ := s
      obtain ⟨_, p1, p2, p3, p4⟩ := hP
      dsimp only at p1 p2 p3 p4 ⊢
      subst p1
      have h69 : J 69 = I 69 := p2 69 (by omega) (by omega)
      have hLs' : Lst J L rm n N e := by unfold Lst; rw [h69]; exact hLs
      rw [f_X4_followMove_3, h69, r1, r2, ifc (q_le (by omega) (by omega))]
      by_cases hxN : N ≤ x
      · left
        rw [if_pos hxN]
        have e1 : x = N := by omega
        subst e1
        refine ⟨J, rfl, p2, p3, fun y hy => ?_⟩
        obtain ⟨b1, b2⟩ := hX (2 * i + 1) y (by omega) hy
        have := p4 _ b1
        rwa [(NX_back hn hmv he hX hi hy).1] at this
      · right
        have hx' : x < N := by omega
        obtain ⟨a1, a2⟩ := hX (2 * i) x (by omega) hx'
        rw [s0] at a2
        have hf := find_in hn hG he hLs' a1
        rw [a2] at hf
        refine ⟨hx', ?_⟩
        rw [if_neg hxN, q_chk (by omega) (by omega), q_ix (by omega), r5 x hx', ob (compose_eq hn (EL_P hG he hx') (hmv i hi)), ob hf, if_neg (nI_pos (by omega)), q_chk (by omega) (by omega), bnd_eq, q_chk (by omega) (by omega), bnd_eq, q_ix (by omega), bnd_eq, nI_1]
        refine ⟨(nI (x + 1), up2 (up2 J (77 + 2 * i) x (nI (nx (2 * i) x))) (77 + (2 * i + 1)) (nx (2 * i) x) (nI x)), rfl, by omega, rfl, fun p h1 h2 => ?_, fun y hy => ?_, fun y hy => ?_⟩
        · dsimp only
          rw [up2_ne h2, up2_ne h1]; exact p2 p h1 h2
        · dsimp only
          rw [up2_ne (by omega)]
          by_cases e2 : y = x
          · rw [e2, up2_s]
          · rw [up2_n e2]; exact p3 y (by omega)
        · dsimp only
          by_cases e2 : y = x
          · rw [e2, up2_s]
          · have hne : nx (2 * i) y ≠ nx (2 * i) x := fun g => e2 (by
              rw [← (NX_back hn hmv he hX hi (show y < N by omega)).2, g, (NX_back hn hmv he hX hi hx').2])
            rw [up2_n hne, up2_ne (by omega)]; exact p4 y (by omega))
  rw [nI_0] at this
  exact this
/-- from one place on -/
theorem reachFrom_eq {I : MI} {L : ML} {i fin : Nat} {q : Nat → Nat} (hn : n ≤ 10) (hmv : ∀ i, i < m → IsP n (mv i)) (hm : m ≤ 6) (he : EL n (Gp n m mv) N e) (hX : NX m mv N e nx) (hD : DK m mv N e dp kk) (h1 : I 69 1 = nI N) (h12 : I 69 12 = nI (2 * m)) (hN : N ≤ rm) (hrm : rm ≤ 5040) (hnx : ∀ s x, s < 2 * m → x < N → I (77 + s) x = nI (nx s x)) (hM : MB I 70 75 N dp kk i 0 fin q) (hL : LSm I N kk fin q) (hi : i < fin) :
    ∃ fin' q' s' I', f_X4_reachFrom rm (nI (q i)) (nI fin) I L = some (nI fin', I', L) ∧ MB I' 70 75 N dp kk i s' fin' q' ∧ LSm I' N kk fin' q' ∧ (s' = 2 * m ∨ fin' = N) ∧ i < fin' ∧ (∀ p, p ≠ 70 → p ≠ 74 → p ≠ 75 → I' p = I p) := by
  unfold f_X4_reachFrom
  have := loop0 (fun fu z => f_X4_reachFrom_5 rm (nI (q i)) L fu z.1 z.2.1 z.2.2)
    (fun s z => s ≤ 2 * m ∧ z.2.1 = nI s ∧ (∃ fin' q', z.1 = nI fin' ∧ MB z.2.2 70 75 N dp kk i s fin' q' ∧ LSm z.2.2 N kk fin' q' ∧ i < fin' ∧ q' i = q i) ∧ (∀ p, p ≠ 70 → p ≠ 74 → p ≠ 75 → z.2.2 p = I p))
    (fun o => ∃ fin' q' s' I', o = some (nI fin', I', L) ∧ MB I' 70 75 N dp kk i s' fin' q' ∧ LSm I' N kk fin' q' ∧ (s' = 2 * m ∨ fin' = N) ∧ i < fin' ∧ (∀ p, p ≠ 70 → p ≠ 74 → p ≠ 75 → I' p = I p)) (2 * m) (by omega) (nI fin, nI 0, I) ⟨Nat.zero_le _, rfl, ⟨fin, q, rfl, hM, hL, hi, rfl⟩, fun _ _ _ _ => rfl⟩
    (fun fu s z hs hP => by
      obtain ⟨z1, z2, J⟩ := z
      obtain ⟨_, p1, ⟨fin', q', p2, p3, p4, p5, p6⟩, p7⟩ := hP
      dsimp only at p1 p2 p3 p4 p7 ⊢
      subst p1 p2
      obtain ⟨b1, b2, b3, b4⟩ := id p3
      have hfN := b1.1
      rw [f_X4_reachFrom_5, p7 69 (by decide) (by decide) (by decide), h12, h1, ifc (q_le (by omega) (by omega))]
      by_cases c1 : 2 * m ≤ s
      · left
        rw [if_pos c1]
        exact ⟨fin', q', s, J, rfl, p3, p4, Or.inl (by omega), p5, p7⟩
      · rw [if_neg c1, ifc (q_le (by omega) (by omega))]
        by_cases c2 : N ≤ fin'
        · left
          rw [if_pos c2]
          exact ⟨fin', q', s, J, rfl, p3, p4, Or.inr (by omega), p5, p7⟩
        · right
          refine ⟨by omega, ?_⟩
          have hqi : q i < N := by rw [← p6]; exact b1.2.1 i p5
          obtain ⟨y1, y2⟩ := hX s (q i) (by omega) hqi
          have ey : e (nx s (q i)) = cp (e (q' i)) (stp mv s) := by rw [p6]; exact y2
          rw [if_neg c2, q_chk (by omega) (by omega), q_chk (by omega) (by omega), bnd_eq, q_ix (by omega), q_ix (by omega), p7 (77 + s) (by omega) (by omega) (by omega), hnx s (q i) (by omega) hqi, q_chk (by omega) (by omega), q_ix (by omega)]
          by_cases hd : ∃ j, j < fin' ∧ q' j = nx s (q i)
          · have hdl := DK_lt hn hm hmv he hD y1
            rw [b3 _ y1 hd, if_neg (nI_nm1 (by omega)), bnd_eq, nI_1]
            exact ⟨(nI fin', nI (s + 1), J), rfl, by omega, rfl, ⟨fin', q', rfl, ⟨BI_old hn hm hmv he hD b1 p5 y1 ey hd, b2, b3, b4⟩, p4, p5, p6⟩, p7⟩
          · obtain ⟨n1, n2, n3, n4⟩ := BI_new hn hm hmv he hD b1 p5 (by omega) y1 ey hd
            have hqd : J 70 (q i) = nI (dp (q i)) := b3 _ hqi ⟨i, p5, p6⟩
            rw [b4 _ y1 hd, if_pos rfl, q_chk (by omega) (by omega), q_chk (by omega) (by omega), bnd_eq, q_chk (by omega) (by omega), bnd_eq, q_chk (by omega) (by omega), bnd_eq, q_ix (by omega), bnd_eq, nI_1, bnd_eq, nI_1, hqd, nI_1]
            have hne : ∀ x, x < N → (∃ j, j < fin' ∧ q' j = x) → x ≠ nx s (q i) := fun x hx g e1 => hd (e1 ▸ g)
            have hin : ∀ x, (∃ j, j < fin' + 1 ∧ us q' fin' (nx s (q i)) j = x) → x ≠ nx s (q i) → ∃ j, j < fin' ∧ q' j = x := fun x ⟨j, hj, ej⟩ hx => by
              by_cases g : j < fin'
              · rw [us_n (by omega)] at ej; exact ⟨j, g, ej⟩
              · rw [show j = fin' by omega, us_s] at ej; exact absurd ej.symm hx
            refine ⟨(nI (fin' + 1), nI (s + 1), up2 (up2 (up2 J 70 (nx s (q i)) (nI (dp (q i) + 1))) 74 (nx s (q i)) (nI s)) 75 fin' (nI (nx s (q i)))), rfl, by omega, rfl, ⟨fin' + 1, us q' fin' (nx s (q i)), rfl, ⟨n4, fun j hj => ?_, fun x hx g => ?_, fun x hx g => ?_⟩, fun x hx g g0 => ?_, by omega, by rw [us_n (by omega)]; exact p6⟩, fun p a1 a2 a3 => ?_⟩
            · dsimp only
              by_cases g : j = fin'
              · rw [g, up2_s, us_s]
              · rw [up2_n g, up2_ne (by decide), up2_ne (by decide), us_n g]; exact b2 j (by omega)
            · dsimp only
              rw [up2_ne (by decide), up2_ne (by decide)]
              by_cases e1 : x = nx s (q i)
              · rw [e1, up2_s, n3, p6]
              · rw [up2_n e1]; exact b3 x hx (hin x g e1)
            · dsimp only
              rw [up2_ne (by decide), up2_ne (by decide)]
              have e1 : x ≠ nx s (q i) := fun e1 => g ⟨fin', by omega, by rw [us_s, e1]⟩
              rw [up2_n e1]
              exact b4 x hx (fun ⟨j, hj, ej⟩ => g ⟨j, by omega, by rw [us_n (by omega)]; exact ej⟩)
            · dsimp only
              rw [up2_ne (by decide)]
              by_cases e1 : x = nx s (q i)
              · rw [e1, up2_s, n2, show (12 * kk (q' i) + s) % 12 = s by omega]
              · rw [up2_n e1, up2_ne (by decide)]; exact p4 x hx (hin x g e1) g0
            · dsimp only
              rw [up2_ne a3, up2_ne a2, up2_ne a1]; exact p7 p a1 a2 a3)
  rw [nI_0] at this
  exact this
/-- what the roster knows when it is measured -/
def Msd (I : MI) (m : Nat) (mv : Nat → Nat → Nat) (N : Nat) (e : Nat → Nat → Nat) : Prop :=
  ∃ dp kk nx D, DK m mv N e dp kk ∧ NX m mv N e nx ∧ I 69 12 = nI (2 * m) ∧ I 69 2 = nI D ∧ (∀ x, x < N → dp x ≤ D) ∧ (∃ x, x < N ∧ dp x = D) ∧ (∀ x, x < N → I 70 x = nI (dp x)) ∧ (∀ x, x < N → x ≠ 0 → I 74 x = nI (kk x % 12)) ∧ (∀ s x, s < 2 * m → x < N → I (77 + s) x = nI (nx s x))
theorem measure95 {I : MI} {L : ML} (hn : n ≤ 10) (hmv : ∀ i, i < m → IsP n (mv i)) (hm : m ≤ 6) (he : EL n (Gp n m mv) N e) (hX : NX m mv N e nx) (hD : DK m mv N e dp kk) (h1 : I 69 1 = nI N) (h12 : I 69 12 = nI (2 * m)) (hN : N ≤ rm) (hrm : rm ≤ 5040) (hnx : ∀ s x, s < 2 * m → x < N → I (77 + s) x = nI (nx s x)) (hq : I 75 0 = 0) (hd0 : I 70 0 = 0) (hd : ∀ x, x < N → x ≠ 0 → I 70 x = -1) (k0 : Int32 → MI → ML → Option Mm) :
    ∃ (q : Nat → Nat) (I' : MI), f_X4_measure_95 rm 7 k0 FU 1 0 I L = k0 (nI N) I' L ∧ (∀ j j', j < j' → j' < N → kk (q j) < kk (q j')) ∧ (∀ x, x < N → ∃ j, j < N ∧ q j = x) ∧ (∀ j, j < N → q j < N) ∧ (∀ j, j < N → I' 75 j = nI (q j)) ∧ (∀ x, x < N → I' 70 x = nI (dp x)) ∧ (∀ x, x < N → x ≠ 0 → I' 74 x = nI (kk x % 12)) ∧ (∀ p, p ≠ 70 → p ≠ 74 → p ≠ 75 → I' p = I p) := by
  have hG := Gp_Sub hn hmv
  have hNp := EL_pos hG he
  obtain ⟨z0, _⟩ := DK_0 hn hm hmv he hD
  have := loop0 (fun fu z => f_X4_measure_95 rm 7 k0 fu z.1 z.2.1 z.2.2.1 z.2.2.2)
    (fun i z => i ≤ N ∧ z.2.1 = nI i ∧ z.2.2.2 = L ∧ (∃ fin q i0 s0, z.1 = nI fin ∧ MB z.2.2.1 70 75 N dp kk i0 s0 fin q ∧ LSm z.2.2.1 N kk fin q ∧ i ≤ fin ∧ ((i0 = i ∧ s0 = 0) ∨ fin = N)) ∧ (∀ p, p ≠ 70 → p ≠ 74 → p ≠ 75 → z.2.2.1 p = I p))
    (fun o => ∃ (q : Nat → Nat) (I' : MI), o = k0 (nI N) I' L ∧ (∀ j j', j < j' → j' < N → kk (q j) < kk (q j')) ∧ (∀ x, x < N → ∃ j, j < N ∧ q j = x) ∧ (∀ j, j < N → q j < N) ∧ (∀ j, j < N → I' 75 j = nI (q j)) ∧ (∀ x, x < N → I' 70 x = nI (dp x)) ∧ (∀ x, x < N → x ≠ 0 → I' 74 x = nI (kk x % 12)) ∧ (∀ p, p ≠ 70 → p ≠ 74 → p ≠ 75 → I' p = I p)) N (by omega) (nI 1, nI 0, I, L)
    ⟨Nat.zero_le _, rfl, rfl, ⟨1, fun _ => 0, 0, 0, rfl, ⟨BI_0 hNp, fun j hj => by rw [show j = 0 by omega]; exact hq, fun x hx ⟨j, _, g⟩ => by rw [← g, z0]; exact hd0, fun x hx g => hd x hx (fun h0 => g ⟨0, by omega, h0.symm⟩)⟩, fun x hx ⟨j, _, g⟩ h0 => absurd g.symm h0, by omega, Or.inl ⟨rfl, rfl⟩⟩, fun _ _ _ _ => rfl⟩
    (fun fu i z hi hP => by
      obtain ⟨z1, z2, J, K⟩ := z
      obtain ⟨_, p1, p2, ⟨fin, q, i0, s0, p3, p4, p5, p6, p7⟩, p8⟩ := hP
      dsimp only at p1 p2 p3 p4 p5 p8 ⊢
      subst p1 p2 p3
      have hfN := p4.1.1
      have fini : fin = N → (∃ (q : Nat → Nat) (I' : MI), k0 (nI fin) J K = k0 (nI N) I' K ∧ (∀ j j', j < j' → j' < N → kk (q j) < kk (q j')) ∧ (∀ x, x < N → ∃ j, j < N ∧ q j = x) ∧ (∀ j, j < N → q j < N) ∧ (∀ j, j < N → I' 75 j = nI (q j)) ∧ (∀ x, x < N → I' 70 x = nI (dp x)) ∧ (∀ x, x < N → x ≠ 0 → I' 74 x = nI (kk x % 12)) ∧ (∀ p, p ≠ 70 → p ≠ 74 → p ≠ 75 → I' p = I p)) := fun g => by
        have hall := BI_full p4.1 g
        subst g
        exact ⟨q, J, rfl, p4.1.2.2.1, hall, p4.1.2.1, p4.2.1, fun x hx => p4.2.2.1 x hx (hall x hx), fun x hx h0 => p5 x hx (hall x hx) h0, p8⟩
      have hend : fin ≤ i → fin = N := fun g => by
        rcases p7 with ⟨a, b⟩ | a
        · exact (BI_end hn hm hmv he hD p4.1 (by omega)).1
        · exact a
      rw [f_X4_measure_95, p8 69 (by decide) (by decide) (by decide), h1, ifc (q_le (by omega) (by omega))]
      by_cases c1 : fin ≤ i
      · left; rw [if_pos c1]; exact fini (hend c1)
      · rw [if_neg c1, ifc (q_le (by omega) (by omega))]
        by_cases c2 : N ≤ i
        · left; rw [if_pos c2]; exact fini (by omega)
        · right
          refine ⟨by omega, ?_⟩
          rw [if_neg c2, q_chk (by omega) (by omega), q_ix (by omega), p4.2.1 i (by omega)]
          have h69 := p8 69 (by decide) (by decide) (by decide)
          rcases p7 with ⟨a, b⟩ | a
          · subst a b
            obtain ⟨fin', q', s', I', j1, j2, j3, j4, j5, j6⟩ := reachFrom_eq (L := K) hn hmv hm he hX hD (by rw [h69]; exact h1) (by rw [h69]; exact h12) hN hrm (fun s x a1 a2 => by rw [p8 (77 + s) (by omega) (by omega) (by omega)]; exact hnx s x a1 a2) p4 p5 (show i0 < fin by omega)
            rw [ob j1, bnd_eq, bnd_eq, nI_1]
            refine ⟨(nI fin', nI (i0 + 1), I', K), rfl, by omega, rfl, rfl, ?_, fun p a1 a2 a3 => by rw [← p8 p a1 a2 a3]; exact j6 p a1 a2 a3⟩
            rcases j4 with g | g
            · subst g
              exact ⟨fin', q', i0 + 1, 0, rfl, ⟨BI_next hn hm hmv he hD j2.1 j5, j2.2⟩, j3, j5, Or.inl ⟨rfl, rfl⟩⟩
            · exact ⟨fin', q', i0, s', rfl, j2, j3, j5, Or.inr g⟩
          · have hrf : f_X4_reachFrom rm (nI (q i)) (nI fin) J K = some (nI fin, J, K) := by
              unfold f_X4_reachFrom
              rw [show FU = 999999999 + 1 from rfl, f_X4_reachFrom_5, h69, h12, h1]
              by_cases g : nI (2 * m) ≤ 0
              · rw [if_pos g]
              · rw [if_neg g, if_pos (by rw [q_le (by omega) (by omega)]; omega)]
            rw [ob hrf, bnd_eq, bnd_eq, nI_1]
            exact ⟨(nI fin, nI (i + 1), J, K), rfl, by omega, rfl, rfl, ⟨fin, q, i0, s0, rfl, p4, p5, by omega, Or.inr a⟩, p8⟩)
  rw [nI_0] at this
  exact this
theorem measure17 {I : MI} {L : ML} (hn : n ≤ 10) (hmv : ∀ i, i < m → IsP n (mv i)) (hm : m ≤ 6) (he : EL n (Gp n m mv) N e) (hX : NX m mv N e nx) (hLs : Lst I L rm n N e) (hL7 : ∀ i, i < m → L 7 i = tn n (mv i)) (k0 : MI → ML → Option Mm) : ∃ I', f_X4_measure_17 rm 7 (nI m) k0 FU 0 I L = k0 I' L ∧ (∀ p, p < 77 → I' p = I p) ∧ (∀ s x, s < 2 * m → x < N → I' (77 + s) x = nI (nx s x)) := by
  have := loop0 (fun fu z => f_X4_measure_17 rm 7 (nI m) k0 fu z.1 z.2.1 z.2.2)
    (fun i z => i ≤ m ∧ z.1 = nI i ∧ z.2.2 = L ∧ (∀ p, p < 77 → z.2.1 p = I p) ∧ (∀ s x, s < 2 * i → x < N → z.2.1 (77 + s) x = nI (nx s x)))
    (fun o => ∃ I', o = k0 I' L ∧ (∀ p, p < 77 → I' p = I p) ∧ (∀ s x, s < 2 * m → x < N → I' (77 + s) x = nI (nx s x))) m (by omega) (nI 0, I, L) ⟨Nat.zero_le _, rfl, rfl, fun _ _ => rfl, fun s x h => by omega⟩
    (fun fu i z hi hP => by
      obtain ⟨z1, J, K⟩ := z
      obtain ⟨_, p1, p2, p3, p4⟩ := hP
      dsimp only at p1 p2 p3 p4 ⊢
      subst p1 p2
      rw [f_X4_measure_17, ifc (q_le (by omega) (by omega))]
      by_cases c1 : m ≤ i
      · left
        rw [if_pos c1]
        exact ⟨J, rfl, p3, fun s x h1 h2 => p4 s x (by omega) h2⟩
      · right
        refine ⟨by omega, ?_⟩
        rw [if_neg c1, q_chk (by omega) (by decide), show (2 : Int32) = nI 2 from rfl, pk_mul, q_chk (by omega) (by decide), nI_1, q_chk (by omega) (by decide), q_ix (by omega), q_ix (by omega), q_ix (by omega), hL7 i (by omega)]
        obtain ⟨I', j1, j2, j3, j4⟩ := followMove_eq (I := J) (L := K) hn hmv hm he hX (by unfold Lst; rw [p3 69 (by decide)]; exact hLs) (show i < m by omega)
        rw [ob j1, bnd_eq, nI_1]
        refine ⟨(nI (i + 1), I', K), rfl, by omega, rfl, rfl, fun p hp => by rw [← p3 p hp]; exact j2 p (by omega) (by omega), fun s x h1 h2 => ?_⟩
        show I' (77 + s) x = _
        by_cases e1 : s = 2 * i
        · rw [e1]; exact j3 x h2
        · by_cases e2 : s = 2 * i + 1
          · rw [e2]; exact j4 x h2
          · rw [j2 (77 + s) (by omega) (by omega)]; exact p4 s x (by omega) h2)
  rw [nI_0] at this
  exact this
theorem measure_eq {I : MI} {L : ML} (hn : n ≤ 10) (hmv : ∀ i, i < m → IsP n (mv i)) (hm : m ≤ 6) (he : EL n (Gp n m mv) N e) (hLs : Lst I L rm n N e) (hL7 : ∀ i, i < m → L 7 i = tn n (mv i)) (h13 : I 69 13 = 0) : ∃ I', f_X4_measure rm 7 (nI m) I L = some (I', L) ∧ Msd I' m mv N e ∧ I' 69 13 = 1 ∧ (∀ j, j ≠ 2 → j ≠ 12 → j ≠ 13 → I' 69 j = I 69 j) ∧ (∀ p, p < 69 ∨ (p = 71 ∨ p = 72 ∨ p = 73) → I' p = I p) := by
  have hG := Gp_Sub hn hmv
  have hNp := EL_pos hG he
  obtain ⟨r0, r1, r2, r3, r4, r5⟩ := id hLs
  obtain ⟨nx, hX⟩ := NX_ex hn hmv he
  obtain ⟨dp, kk, hD⟩ := DK_ex hn hmv he
  unfold f_X4_measure
  rw [if_pos h13, bnd_eq, show (2 : Int32) = nI 2 from rfl, pk_mul]
  have hLs1 : Lst (up2 I 69 12 (nI (2 * m))) L rm n N e := by
    refine ⟨?_, ?_, ?_, r3, r4, r5⟩
    · rw [up2_n (by decide)]; exact r0
    · rw [up2_n (by decide)]; exact r1
    · rw [up2_n (by decide)]; exact r2
  obtain ⟨I1, a1, a2, a3⟩ := measure17 (I := up2 I 69 12 (nI (2 * m))) (L := L) hn hmv hm he hX hLs1 hL7 (fun (I_10 : MI) (L_11 : ML) =>
    f_X4_measure_55 rm 7 L_11 (fun (I_16 : MI) =>
    chk (inb 0 rm) (bnd (up2 I_16 70 (ix 0) 0) (fun I_17 =>
    chk (inb 0 rm) (bnd (up2 I_17 75 (ix 0) 0) (fun I_18 =>
    f_X4_measure_95 rm 7 (fun (v3_26 : Int32) (I_27 : MI) (L_28 : ML) =>
    chk (inb (v3_26 - 1) rm) (
    chk (inb (I_27 75 (ix (v3_26 - 1))) rm) (
    bnd (up2 I_27 69 2 (I_27 70 (ix (I_27 75 (ix (v3_26 - 1)))))) (fun I_29 =>
    bnd (up2 I_29 69 13 1) (fun I_30 =>
    some (I_30, L_28)))))) FU 1 0 I_18 L_11))))) FU 0 I_10)
  rw [a1]
  have b0 : ∃ I2, f_X4_measure_55 rm 7 L (fun (I_16 : MI) =>
    chk (inb 0 rm) (bnd (up2 I_16 70 (ix 0) 0) (fun I_17 =>
    chk (inb 0 rm) (bnd (up2 I_17 75 (ix 0) 0) (fun I_18 =>
    f_X4_measure_95 rm 7 (fun (v3_26 : Int32) (I_27 : MI) (L_28 : ML) =>
    chk (inb (v3_26 - 1) rm) (
    chk (inb (I_27 75 (ix (v3_26 - 1))) rm) (
    bnd (up2 I_27 69 2 (I_27 70 (ix (I_27 75 (ix (v3_26 - 1)))))) (fun I_29 =>
    bnd (up2 I_29 69 13 1) (fun I_30 =>
    some (I_30, L_28)))))) FU 1 0 I_18 L))))) FU 0 I1 = (fun (I_16 : MI) =>
    chk (inb 0 rm) (bnd (up2 I_16 70 (ix 0) 0) (fun I_17 =>
    chk (inb 0 rm) (bnd (up2 I_17 75 (ix 0) 0) (fun I_18 =>
    f_X4_measure_95 rm 7 (fun (v3_26 : Int32) (I_27 : MI) (L_28 : ML) =>
    chk (inb (v3_26 - 1) rm) (
    chk (inb (I_27 75 (ix (v3_26 - 1))) rm) (
    bnd (up2 I_27 69 2 (I_27 70 (ix (I_27 75 (ix (v3_26 - 1)))))) (fun I_29 =>
    bnd (up2 I_29 69 13 1) (fun I_30 =>
    some (I_30, L_28)))))) FU 1 0 I_18 L))))) I2 ∧ (∀ x, x < N → I2 70 x = -1) ∧ (∀ p, p ≠ 70 → I2 p = I1 p) := by
    have h1 : I1 69 1 = nI N := by rw [a2 69 (by decide)]; exact hLs1.2.1
    have := for0 (fun fu s => f_X4_measure_55 rm 7 L (fun (I_16 : MI) =>
      chk (inb 0 rm) (bnd (up2 I_16 70 (ix 0) 0) (fun I_17 =>
      chk (inb 0 rm) (bnd (up2 I_17 75 (ix 0) 0) (fun I_18 =>
      f_X4_measure_95 rm 7 (fun (v3_26 : Int32) (I_27 : MI) (L_28 : ML) =>
      chk (inb (v3_26 - 1) rm) (
      chk (inb (I_27 75 (ix (v3_26 - 1))) rm) (
      bnd (up2 I_27 69 2 (I_27 70 (ix (I_27 75 (ix (v3_26 - 1)))))) (fun I_29 =>
      bnd (up2 I_29 69 13 1) (fun I_30 =>
      some (I_30, L_28)))))) FU 1 0 I_18 L))))) fu s.1 s.2) (fun x => (nI x, wr I1 70 0 x (fun _ => -1))) N _ (by omega)
      (fun fu => by
        dsimp only
        rw [f_X4_measure_55, wr_ne (by decide), h1, if_pos (by rw [q_le (by omega) (by omega)]; omega)])
      (fun fu x hx => by
        dsimp only
        rw [f_X4_measure_55, wr_ne (by decide), h1, if_neg (by rw [q_le (by omega) (by omega)]; omega), q_chk (by omega) (by omega), bnd_eq, q_ix (by omega), wr_s0 (f := fun _ => (-1 : Int32)) rfl, bnd_eq, nI_1])
    rw [wr_0, nI_0] at this
    exact ⟨_, this, fun x hx => wr_in (Nat.zero_le _) (by omega), fun p hp => wr_ne hp⟩
  obtain ⟨I2, b1, b2, b3⟩ := b0
  rw [b1]
  have c0 : (0 : Int32) = nI 0 := rfl
  dsimp only
  rw [show chk (inb 0 rm) = chk (inb (nI 0) rm) from rfl, q_chk (by omega) (by omega), bnd_eq, q_chk (by omega) (by omega), bnd_eq, show ix 0 = 0 from rfl]
  have f69 : ∀ p, p ≠ 70 → p ≠ 75 → up2 (up2 I2 70 0 0) 75 0 0 p = I1 p := fun p h1 h2 => by rw [up2_ne h2, up2_ne h1]; exact b3 p h1
  obtain ⟨q, I3, d1, d2, d3, d4, d5, d6, d7, d8⟩ := measure95 (I := up2 (up2 I2 70 0 0) 75 0 0) (L := L) hn hmv hm he hX hD (by rw [f69 69 (by decide) (by decide), a2 69 (by decide)]; exact hLs1.2.1) (by rw [f69 69 (by decide) (by decide), a2 69 (by decide), up2_s]) r3 r4 (fun s x h1 h2 => by rw [f69 (77 + s) (by omega) (by omega)]; exact a3 s x h1 h2) up2_s (by rw [up2_ne (by decide), up2_s]) (fun x hx h0 => by rw [up2_ne (by decide), up2_n h0]; exact b2 x hx) (fun (v3_26 : Int32) (I_27 : MI) (L_28 : ML) =>
    chk (inb (v3_26 - 1) rm) (
    chk (inb (I_27 75 (ix (v3_26 - 1))) rm) (
    bnd (up2 I_27 69 2 (I_27 70 (ix (I_27 75 (ix (v3_26 - 1)))))) (fun I_29 =>
    bnd (up2 I_29 69 13 1) (fun I_30 =>
    some (I_30, L_28))))))
  rw [d1]
  have hl := d4 (N - 1) (by omega)
  rw [show (1 : Int32) = nI 1 from rfl, pk_sub hNp, q_chk (by omega) (by omega), q_ix (by omega), d5 (N - 1) (by omega), q_chk (by omega) (by omega), bnd_eq, q_ix (by omega), d6 _ hl, bnd_eq]
  have f3 : ∀ p, p ≠ 69 → p ≠ 70 → p ≠ 74 → p ≠ 75 → p < 77 → up2 (up2 I3 69 2 (nI (dp (q (N - 1))))) 69 13 (nI 1) p = I p := fun p h0 h1 h2 h3 h4 => by
    rw [up2_ne h0, up2_ne h0, d8 p h1 h2 h3, f69 p h1 h3, a2 p h4, up2_ne h0]
  refine ⟨_, rfl, ⟨dp, kk, nx, dp (q (N - 1)), hD, hX, ?_, ?_, fun x hx => ?_, ⟨q (N - 1), hl, rfl⟩, fun x hx => ?_, fun x hx h0 => ?_, fun s x h1 h2 => ?_⟩, up2_s, fun j h1 h2 h3 => ?_, fun p hp => ?_⟩
  · rw [up2_n (by decide), up2_n (by decide), d8 69 (by decide) (by decide) (by decide), f69 69 (by decide) (by decide), a2 69 (by decide), up2_s]
  · rw [up2_n (by decide), up2_s]
  · obtain ⟨j, hj, ej⟩ := d3 x hx
    refine DK_mono hm hD hx hl ?_
    rcases Nat.eq_or_lt_of_le (show j ≤ N - 1 by omega) with g | g
    · rw [← ej, g]; exact Nat.le_refl _
    · rw [← ej]; exact Nat.le_of_lt (d2 j (N - 1) g (by omega))
  · rw [up2_ne (by decide), up2_ne (by decide)]; exact d6 x hx
  · rw [up2_ne (by decide), up2_ne (by decide)]; exact d7 x hx h0
  · rw [up2_ne (by omega), up2_ne (by omega), d8 (77 + s) (by omega) (by omega) (by omega), f69 (77 + s) (by omega) (by omega)]
    exact a3 s x h1 h2
  · rw [up2_n h3, up2_n h1, d8 69 (by decide) (by decide) (by decide), f69 69 (by decide) (by decide), a2 69 (by decide), up2_n h2]
  · exact f3 p (by omega) (by omega) (by omega) (by omega) (by omega)
end MS1
