/-! Loading: signs, runs, pieces of the text -/
def cW (c : Int32) : Bool := decide (c = 32) || decide (c = 10)
def cL (c : Int32) : Bool := decide (97 ≤ c) && decide (c ≤ 122)
def cD (c : Int32) : Bool := decide (48 ≤ c) && decide (c ≤ 57)
def dv (c : Int32) : Nat := ix c - 48
def lv (c : Int32) : Nat := ix c - 96
def nv (b : Nat → Int32) (s : Nat) : Nat → Nat
  | 0 => 0
  | d + 1 => 10 * nv b s d + dv (b (s + d))
def wv (b : Nat → Int32) (s : Nat) : Nat → Nat
  | 0 => 0
  | d + 1 => 27 * wv b s d + lv (b (s + d))
def Rn (p : Int32 → Bool) (b : Nat → Int32) (last s e : Nat) : Prop := s ≤ e ∧ e ≤ last ∧ (∀ j, s ≤ j → j < e → p (b j) = true) ∧ (e < last → p (b e) = false)
/-- from i on: the piece from s to e, of kind k -/
def Tok (b : Nat → Int32) (last i s e k : Nat) : Prop := Rn cW b last i s ∧ ((s = last ∧ e = s ∧ k = 0) ∨ (s < last ∧ cL (b s) = true ∧ Rn cL b last s e ∧ k = if e - s ≤ 8 then 1 else 3) ∨ (s < last ∧ cL (b s) = false ∧ cD (b s) = true ∧ Rn cD b last s e ∧ k = if e - s ≤ 2 then 2 else 3) ∨ (s < last ∧ cL (b s) = false ∧ cD (b s) = false ∧ e = s + 1 ∧ ((b s = nI k ∧ (k = 40 ∨ k = 41 ∨ k = 39 ∨ k = 59)) ∨ (b s ≠ 40 ∧ b s ≠ 41 ∧ b s ≠ 39 ∧ b s ≠ 59 ∧ k = 3))))
section TK
variable {b : Nat → Int32} {last i s e k : Nat} {I J : MI} {L M : ML}
theorem Rn_ex {p : Int32 → Bool} : ∀ d s, last = s + d → ∃ e, Rn p b last s e := by
  intro d
  induction d with
  | zero => intro s h; exact ⟨s, Nat.le_refl _, by omega, fun j h1 h2 => by omega, fun h => by omega⟩
  | succ d ih =>
    intro s h
    cases hp : p (b s)
    · exact ⟨s, Nat.le_refl _, by omega, fun j h1 h2 => by omega, fun _ => hp⟩
    · obtain ⟨e, e1, e2, e3, e4⟩ := ih (s + 1) (by omega)
      refine ⟨e, by omega, e2, fun j h1 h2 => ?_, e4⟩
      by_cases c : j = s
      · rw [c]; exact hp
      · exact e3 j (by omega) h2
theorem Rn_lt {p : Int32 → Bool} (h : Rn p b last s e) (hs : s < last) (hp : p (b s) = true) : s < e := by
  by_cases c : e = s
  · have := h.2.2.2 (by omega)
    rw [c, hp] at this; cases this
  · have := h.1; omega
theorem Tok_ex (hi : i ≤ last) : ∃ s e k, Tok b last i s e k := by
  obtain ⟨s, hs⟩ := Rn_ex (last := last) (p := cW) (b := b) (last - i) i (by omega)
  by_cases c : s = last
  · exact ⟨s, s, 0, hs, Or.inl ⟨c, rfl, rfl⟩⟩
  · have hl : s < last := by have := hs.2.1; omega
    cases hL : cL (b s)
    · cases hD : cD (b s)
      · by_cases c1 : b s = 40
        · exact ⟨s, s + 1, 40, hs, Or.inr (Or.inr (Or.inr ⟨hl, hL, hD, rfl, Or.inl ⟨c1, by decide⟩⟩))⟩
        · by_cases c2 : b s = 41
          · exact ⟨s, s + 1, 41, hs, Or.inr (Or.inr (Or.inr ⟨hl, hL, hD, rfl, Or.inl ⟨c2, by decide⟩⟩))⟩
          · by_cases c3 : b s = 39
            · exact ⟨s, s + 1, 39, hs, Or.inr (Or.inr (Or.inr ⟨hl, hL, hD, rfl, Or.inl ⟨c3, by decide⟩⟩))⟩
            · by_cases c4 : b s = 59
              · exact ⟨s, s + 1, 59, hs, Or.inr (Or.inr (Or.inr ⟨hl, hL, hD, rfl, Or.inl ⟨c4, by decide⟩⟩))⟩
              · exact ⟨s, s + 1, 3, hs, Or.inr (Or.inr (Or.inr ⟨hl, hL, hD, rfl, Or.inr ⟨c1, c2, c3, c4, rfl⟩⟩))⟩
      · obtain ⟨e, he⟩ := Rn_ex (last := last) (p := cD) (b := b) (last - s) s (by omega)
        exact ⟨s, e, _, hs, Or.inr (Or.inr (Or.inl ⟨hl, hL, hD, he, rfl⟩))⟩
    · obtain ⟨e, he⟩ := Rn_ex (last := last) (p := cL) (b := b) (last - s) s (by omega)
      exact ⟨s, e, _, hs, Or.inr (Or.inl ⟨hl, hL, he, rfl⟩)⟩
theorem Tok_lt (h : Tok b last i s e k) : i ≤ s ∧ s ≤ e ∧ e ≤ last ∧ (k ≠ 0 → s < e) ∧ (k = 0 → s = last) ∧ k ≤ 59 := by
  obtain ⟨h1, h2⟩ := h
  have a := h1.1
  have a2 := h1.2.1
  rcases h2 with ⟨g1, g2, g3⟩ | ⟨g1, g2, g3, g4⟩ | ⟨g1, g2, g3, g4, g5⟩ | ⟨g1, g2, g3, g4, g5⟩
  · omega
  · have := Rn_lt g3 g1 g2
    have := g3.2.1
    refine ⟨a, by omega, by omega, fun _ => by omega, fun g => ?_, ?_⟩
    · rw [g] at g4; split at g4 <;> omega
    · rw [g4]; split <;> omega
  · have := Rn_lt g4 g1 g3
    have := g4.2.1
    refine ⟨a, by omega, by omega, fun _ => by omega, fun g => ?_, ?_⟩
    · rw [g] at g5; split at g5 <;> omega
    · rw [g5]; split <;> omega
  · refine ⟨a, by omega, by omega, fun _ => by omega, fun g => ?_, ?_⟩ <;> rcases g5 with ⟨_, g⟩ | ⟨_, _, _, _, g⟩ <;> omega
theorem cL_e {c : Int32} (h : cL c = true) : c = nI (96 + lv c) ∧ 1 ≤ lv c ∧ lv c ≤ 26 := by
  have h1 := of_decide_eq_true (Bool.and_eq_true_iff.mp h).1
  have h2 := of_decide_eq_true (Bool.and_eq_true_iff.mp h).2
  have g1 := Int32.le_iff_toInt_le.mp h1
  have g2 := Int32.le_iff_toInt_le.mp h2
  have g3 : (97 : Int32).toInt = 97 := by decide
  have g4 : (122 : Int32).toInt = 122 := by decide
  obtain ⟨j, j1, rfl⟩ := rB_t (a := c) (k := 123) (decide_eq_true ⟨by omega, by omega⟩)
  have e1 : (97 : Int32) = nI 97 := rfl
  rw [e1, q_le (by decide) (by omega)] at h1
  have e2 : lv (nI j) = j - 96 := by unfold lv; rw [q_ix (by omega)]
  rw [e2]
  exact ⟨by rw [show 96 + (j - 96) = j by omega], by omega, by omega⟩
theorem cD_e {c : Int32} (h : cD c = true) : c = nI (48 + dv c) ∧ dv c ≤ 9 := by
  have h1 := of_decide_eq_true (Bool.and_eq_true_iff.mp h).1
  have h2 := of_decide_eq_true (Bool.and_eq_true_iff.mp h).2
  have g1 := Int32.le_iff_toInt_le.mp h1
  have g2 := Int32.le_iff_toInt_le.mp h2
  have g3 : (48 : Int32).toInt = 48 := by decide
  have g4 : (57 : Int32).toInt = 57 := by decide
  obtain ⟨j, j1, rfl⟩ := rB_t (a := c) (k := 58) (decide_eq_true ⟨by omega, by omega⟩)
  have e1 : (48 : Int32) = nI 48 := rfl
  rw [e1, q_le (by decide) (by omega)] at h1
  have e2 : dv (nI j) = j - 48 := by unfold dv; rw [q_ix (by omega)]
  rw [e2]
  exact ⟨by rw [show 48 + (j - 48) = j by omega], by omega⟩
theorem isLetter_eq (c : Int32) : f_X5_isLetter c = some (cL c) := by
  unfold f_X5_isLetter cL
  by_cases h1 : c < 97
  · rw [if_pos h1, decide_eq_false (Int32.not_le.mpr h1), Bool.false_and]
  · rw [if_neg h1, decide_eq_true (Int32.not_lt.mp h1), Bool.true_and]
    by_cases h2 : 122 < c
    · rw [if_pos h2, decide_eq_false (Int32.not_le.mpr h2)]
    · rw [if_neg h2, decide_eq_true (Int32.not_lt.mp h2)]
theorem isDigit_eq (c : Int32) : f_X5_isDigit c = some (cD c) := by
  unfold f_X5_isDigit cD
  by_cases h1 : c < 48
  · rw [if_pos h1, decide_eq_false (Int32.not_le.mpr h1), Bool.false_and]
  · rw [if_neg h1, decide_eq_true (Int32.not_lt.mp h1), Bool.true_and]
    by_cases h2 : 57 < c
    · rw [if_pos h2, decide_eq_false (Int32.not_le.mpr h2)]
    · rw [if_neg h2, decide_eq_true (Int32.not_lt.mp h2)]
/-- fields of one object alone change -/
def Fo (o : Nat) (S : List Nat) (I I' : MI) : Prop := (∀ q, q ≠ o → I' q = I q) ∧ ∀ f, f ∉ S → I' o f = I o f
theorem Fo.refl {o : Nat} {S : List Nat} : Fo o S I I := ⟨fun _ _ => rfl, fun _ _ => rfl⟩
theorem Fo.trans {o : Nat} {S : List Nat} {K : MI} (h : Fo o S I J) (g : Fo o S J K) : Fo o S I K := ⟨fun q hq => (g.1 q hq).trans (h.1 q hq), fun f hf => (g.2 f hf).trans (h.2 f hf)⟩
theorem Fo.mono {o : Nat} {S S' : List Nat} (h : Fo o S I J) (hs : ∀ q, q ∈ S → q ∈ S') : Fo o S' I J := ⟨h.1, fun f hf => h.2 f (fun g => hf (hs f g))⟩
theorem Fo_up {o f : Nat} {S : List Nat} {v : Int32} (h : f ∈ S) : Fo o S I (up2 I o f v) := ⟨fun q hq => up2_ne hq, fun g hg => up2_n (fun e => hg (by rw [e]; exact h))⟩
theorem sc0 (h2 : I 1 2 = nI last) (h3 : I 1 3 = nI i) (hl : last ≤ 400) (hb : ∀ j, j < last → I 2 j = b j) (hR : Rn cW b last i s) (k0 : MI → Option Mm) : ∃ I', f_X5_scan_0 L k0 FU I = k0 I' ∧ I' 1 3 = nI s ∧ Fo 1 [3] I I' := by
  have r1 := hR.1
  have r2 := hR.2.1
  exact loop0 (fun fu z => f_X5_scan_0 L k0 fu z) (fun j z => i + j ≤ s ∧ z 1 3 = nI (i + j) ∧ Fo 1 [3] I z) (fun o => ∃ I', o = k0 I' ∧ I' 1 3 = nI s ∧ Fo 1 [3] I I') (s - i) (by omega) I ⟨by omega, h3, Fo.refl⟩
    (fun fu j z hj hP => by
      obtain ⟨p1, p2, p3⟩ := hP
      have z2 : z 1 2 = nI last := by rw [p3.2 2 (by decide)]; exact h2
      rw [f_X5_scan_0, z2, p2, ifc (q_le (by omega) (by omega))]
      by_cases c1 : last ≤ i + j
      · left
        rw [if_pos c1]
        exact ⟨z, rfl, by rw [p2, show i + j = s by omega], p3⟩
      · have zb : z 2 (i + j) = b (i + j) := by rw [p3.1 2 (by decide)]; exact hb _ (by omega)
        rw [if_neg c1, q_chk (by omega) (by decide), q_ix (by omega), zb]
        by_cases c2 : i + j = s
        · have hw := hR.2.2.2 (by omega)
          rw [← c2] at hw
          unfold cW at hw
          have w1 := of_decide_eq_false (Bool.or_eq_false_iff.mp hw).1
          have w2 := of_decide_eq_false (Bool.or_eq_false_iff.mp hw).2
          left
          rw [if_neg w1, q_chk (by omega) (by decide), if_neg w2]
          exact ⟨z, rfl, by rw [p2, c2], p3⟩
        · have hw := hR.2.2.1 (i + j) (by omega) (by omega)
          unfold cW at hw
          right
          have nx : (∀ q, q ≠ 1 → up2 z 1 3 (nI (i + j + 1)) q = z q) := fun q hq => up2_ne hq
          refine ⟨by omega, up2 z 1 3 (nI (i + j + 1)), ?_, by omega, up2_s, p3.trans (Fo_up (by decide))⟩
          by_cases w1 : b (i + j) = 32
          · rw [if_pos w1, bnd_eq, nI_1]
          · rw [if_neg w1, q_chk (by omega) (by decide), if_pos (by
              rcases Bool.or_eq_true_iff.mp hw with g | g
              · exact absurd (of_decide_eq_true g) w1
              · exact of_decide_eq_true g), bnd_eq, nI_1])
theorem sc94 (h2 : I 1 2 = nI last) (h3 : I 1 3 = nI s) (hl : last ≤ 400) (hb : ∀ j, j < last → I 2 j = b j) (hR : Rn cL b last s e) (k0 : MI → Option Mm) : ∃ I', f_X5_scan_94 L k0 FU I = k0 I' ∧ I' 1 3 = nI e ∧ Fo 1 [3] I I' := by
  have r1 := hR.1
  have r2 := hR.2.1
  exact loop0 (fun fu z => f_X5_scan_94 L k0 fu z) (fun j z => s + j ≤ e ∧ z 1 3 = nI (s + j) ∧ Fo 1 [3] I z) (fun o => ∃ I', o = k0 I' ∧ I' 1 3 = nI e ∧ Fo 1 [3] I I') (e - s) (by omega) I ⟨by omega, h3, Fo.refl⟩
    (fun fu j z hj hP => by
      obtain ⟨p1, p2, p3⟩ := hP
      have z2 : z 1 2 = nI last := by rw [p3.2 2 (by decide)]; exact h2
      rw [f_X5_scan_94, z2, p2, ifc (q_le (by omega) (by omega))]
      by_cases c1 : last ≤ s + j
      · left
        rw [if_pos c1]
        exact ⟨z, rfl, by rw [p2, show s + j = e by omega], p3⟩
      · have zb : z 2 (s + j) = b (s + j) := by rw [p3.1 2 (by decide)]; exact hb _ (by omega)
        rw [if_neg c1, q_chk (by omega) (by decide), q_ix (by omega), zb, ob (isLetter_eq _)]
        by_cases c2 : s + j = e
        · left
          rw [show cL (b (s + j)) = false by rw [c2]; exact hR.2.2.2 (by omega), if_pos b2i_f]
          exact ⟨z, rfl, by rw [p2, c2], p3⟩
        · right
          refine ⟨by omega, up2 z 1 3 (nI (s + j + 1)), ?_, by omega, up2_s, p3.trans (Fo_up (by decide))⟩
          rw [hR.2.2.1 (s + j) (by omega) (by omega), if_neg b2i_t, bnd_eq, nI_1])
theorem nvE {v d : Nat} : (((nI v * 10) + nI (48 + d)) - 48 : Int32) = nI (10 * v + d) := by
  rw [show (10 : Int32) = nI 10 from rfl, show (48 : Int32) = nI 48 from rfl, pk_mul, nI_add, pk_sub (by omega)]
  congr 1; omega
theorem nvR {v d : Nat} : (((10 * nI v) + nI (48 + d)) - 48 : Int32) = nI (10 * v + d) := by
  rw [show (10 : Int32) = nI 10 from rfl, show (48 : Int32) = nI 48 from rfl, pk_mul, nI_add, pk_sub (by omega)]
  congr 1; omega
theorem scN (h2 : I 1 2 = nI last) (h3 : I 1 3 = nI s) (hl : last ≤ 400) (hb : ∀ j, j < last → I 2 j = b j) (hR : Rn cD b last s e) (h6 : I 1 6 = 0) (k0 : MI → Option Mm) : ∃ I', f_X5_scanNumber_5 L k0 FU I = k0 I' ∧ I' 1 3 = nI e ∧ (e - s ≤ 2 → I' 1 6 = nI (nv b s (e - s))) ∧ Fo 1 [3, 6] I I' := by
  have r1 := hR.1
  have r2 := hR.2.1
  exact loop0 (fun fu z => f_X5_scanNumber_5 L k0 fu z) (fun j z => s + j ≤ e ∧ z 1 3 = nI (s + j) ∧ (j ≤ 2 → z 1 6 = nI (nv b s j)) ∧ Fo 1 [3, 6] I z) (fun o => ∃ I', o = k0 I' ∧ I' 1 3 = nI e ∧ (e - s ≤ 2 → I' 1 6 = nI (nv b s (e - s))) ∧ Fo 1 [3, 6] I I') (e - s) (by omega) I ⟨by omega, h3, fun _ => h6, Fo.refl⟩
    (fun fu j z hj hP => by
      obtain ⟨p1, p2, p4, p3⟩ := hP
      have z2 : z 1 2 = nI last := by rw [p3.2 2 (by decide)]; exact h2
      rw [f_X5_scanNumber_5, z2, p2, ifc (q_le (by omega) (by omega))]
      by_cases c1 : last ≤ s + j
      · left
        rw [if_pos c1]
        exact ⟨z, rfl, by rw [p2, show s + j = e by omega], fun g => by rw [show e - s = j by omega]; exact p4 (by omega), p3⟩
      · have zb : z 2 (s + j) = b (s + j) := by rw [p3.1 2 (by decide)]; exact hb _ (by omega)
        rw [if_neg c1, q_chk (by omega) (by decide), q_ix (by omega), zb, ob (isDigit_eq _)]
        by_cases c2 : s + j = e
        · left
          rw [show cD (b (s + j)) = false by rw [c2]; exact hR.2.2.2 (by omega), if_pos b2i_f]
          exact ⟨z, rfl, by rw [p2, c2], fun g => by rw [show e - s = j by omega]; exact p4 (by omega), p3⟩
        · right
          have hd := hR.2.2.1 (s + j) (by omega) (by omega)
          rw [hd, if_neg b2i_t, q_chk (by omega) (by decide), bnd_eq, up2_n (by decide), p2, nI_1, bnd_eq]
          refine ⟨by omega, _, rfl, by omega, up2_s, fun g => ?_, (p3.trans (Fo_up (by decide))).trans (Fo_up (by decide))⟩
          rw [up2_n (by decide), up2_s, p4 (by omega)]
          have := (cD_e hd).1
          generalize hdd : dv (b (s + j)) = dd at this
          rw [this, nvE]
          show _ = nI (10 * nv b s j + dv (b (s + j)))
          rw [hdd])
/-- what the class knows of a piece -/
def CTk (b : Nat → Int32) (I : MI) (s e k : Nat) : Prop := I 1 5 = nI s ∧ I 1 3 = nI e ∧ I 1 4 = nI k ∧ (k = 2 → I 1 6 = nI (nv b s (e - s)))
theorem scan_eq (h2 : I 1 2 = nI last) (h3 : I 1 3 = nI i) (hl : last ≤ 400) (hb : ∀ j, j < last → I 2 j = b j) (hT : Tok b last i s e k) : ∃ I', f_X5_scan I L = some (I', L) ∧ CTk b I' s e k ∧ Fo 1 [3, 4, 5, 6] I I' := by
  obtain ⟨_, l2, l3, _, _, _⟩ := Tok_lt hT
  obtain ⟨hR, hT⟩ := hT
  have r2 := hR.2.1
  unfold f_X5_scan
  generalize hk0 : (fun (I_4 : MI) => (_ : Option Mm)) = k0
  obtain ⟨I1, a1, a2, a3⟩ := sc0 (L := L) h2 h3 hl hb hR k0
  rw [a1, ← hk0]
  dsimp only
  rw [bnd_eq]
  have e5 : up2 I1 1 5 (I1 1 3) 1 3 = nI s := by rw [up2_n (by decide)]; exact a2
  have e2 : up2 I1 1 5 (I1 1 3) 1 2 = nI last := by rw [up2_n (by decide), a3.2 2 (by decide)]; exact h2
  have e55 : up2 I1 1 5 (I1 1 3) 1 5 = nI s := by rw [up2_s]; exact a2
  have eb : ∀ j, j < last → up2 I1 1 5 (I1 1 3) 2 j = b j := fun j hj => by rw [up2_ne (by decide), a3.1 2 (by decide)]; exact hb j hj
  have f5 : Fo 1 [3, 4, 5, 6] I (up2 I1 1 5 (I1 1 3)) := (a3.mono (by decide)).trans (Fo_up (by decide))
  generalize up2 I1 1 5 (I1 1 3) = I2 at e5 e2 e55 eb f5
  rw [e5, e2, ifc (q_lt (by omega) (by omega))]
  rcases hT with ⟨g1, g2, g3⟩ | ⟨g1, g2, g3, g4⟩ | ⟨g1, g2, g3, g4, g5⟩ | ⟨g1, g2, g3, g4, g5⟩
  · rw [if_neg (by omega), bnd_eq]
    exact ⟨_, rfl, ⟨by rw [up2_n (by decide)]; exact e55, by rw [up2_n (by decide), g2]; exact e5, by rw [up2_s, g3]; rfl, fun g => by omega⟩, f5.trans (Fo_up (by decide))⟩
  · rw [if_pos g1, q_chk (by omega) (by decide), bnd_eq, q_ix (by omega), eb s g1, ob (isLetter_eq _), g2, if_neg b2i_t]
    generalize hk1 : (fun (I_17 : MI) => (_ : Option Mm)) = k1
    obtain ⟨I3, c1, c2, c3⟩ := sc94 (L := L) e2 e5 hl eb g3 k1
    have c5 : I3 1 5 = nI s := by rw [c3.2 5 (by decide)]; exact e55
    rw [c1, ← hk1]
    dsimp only
    rw [c2, c5, pk_sub l2, show (8 : Int32) = nI 8 from rfl, ifc (q_lt (by decide) (by omega))]
    by_cases c : e - s ≤ 8
    · rw [if_neg (by omega), bnd_eq]
      rw [if_pos c] at g4
      exact ⟨_, rfl, ⟨by rw [up2_n (by decide)]; exact c5, by rw [up2_n (by decide)]; exact c2, by rw [up2_s, g4]; rfl, fun g => by omega⟩, (f5.trans (c3.mono (by decide))).trans (Fo_up (by decide))⟩
    · rw [if_pos (by omega), bnd_eq]
      rw [if_neg c] at g4
      exact ⟨_, rfl, ⟨by rw [up2_n (by decide)]; exact c5, by rw [up2_n (by decide)]; exact c2, by rw [up2_s, g4]; rfl, fun g => by omega⟩, (f5.trans (c3.mono (by decide))).trans (Fo_up (by decide))⟩
  · rw [if_pos g1, q_chk (by omega) (by decide), bnd_eq, q_ix (by omega), eb s g1, ob (isLetter_eq _), g2, if_pos b2i_f, ob (isDigit_eq _), g3, if_neg b2i_t]
    unfold f_X5_scanNumber
    rw [bnd_eq]
    generalize hk1 : (fun (I_6 : MI) => (_ : Option Mm)) = k1
    obtain ⟨I3, c1, c2, c4, c3⟩ := scN (I := up2 I2 1 6 0) (L := L) (by rw [up2_n (by decide)]; exact e2) (by rw [up2_n (by decide)]; exact e5) hl (fun j hj => by rw [up2_ne (by decide)]; exact eb j hj) g4 up2_s k1
    have c5 : I3 1 5 = nI s := by rw [c3.2 5 (by decide), up2_n (by decide)]; exact e55
    have f3 : Fo 1 [3, 4, 5, 6] I I3 := (f5.trans (Fo_up (by decide))).trans (c3.mono (by decide))
    rw [c1, ← hk1]
    dsimp only
    rw [c2, c5, pk_sub l2, show (2 : Int32) = nI 2 from rfl, ifc (q_lt (by decide) (by omega))]
    by_cases c : e - s ≤ 2
    · rw [if_neg (by omega), bnd_eq, obs]
      rw [if_pos c] at g5
      exact ⟨up2 I3 1 4 (nI 2), rfl, ⟨by rw [up2_n (by decide)]; exact c5, by rw [up2_n (by decide)]; exact c2, by rw [up2_s, g5], fun g => by rw [up2_n (by decide)]; exact c4 c⟩, f3.trans (Fo_up (by decide))⟩
    · rw [if_pos (by omega), bnd_eq, obs]
      rw [if_neg c] at g5
      exact ⟨up2 I3 1 4 3, rfl, ⟨by rw [up2_n (by decide)]; exact c5, by rw [up2_n (by decide)]; exact c2, by rw [up2_s, g5]; rfl, fun g => by omega⟩, f3.trans (Fo_up (by decide))⟩
  · rw [if_pos g1, q_chk (by omega) (by decide), bnd_eq, q_ix (by omega), eb s g1, ob (isLetter_eq _), g2, if_pos b2i_f, ob (isDigit_eq _), g3, if_pos b2i_f, nI_1, bnd_eq]
    have f6 : Fo 1 [3, 4, 5, 6] I (up2 I2 1 3 (nI (s + 1))) := f5.trans (Fo_up (by decide))
    have e6 : up2 I2 1 3 (nI (s + 1)) 1 5 = nI s := by rw [up2_n (by decide)]; exact e55
    have fin : ∀ v, v = nI k → k ≠ 2 → CTk b (up2 (up2 I2 1 3 (nI (s + 1))) 1 4 v) s e k := fun v hv hk => ⟨by rw [up2_n (by decide)]; exact e6, by rw [up2_n (by decide), up2_s, g4], by rw [up2_s, hv], fun g => absurd g hk⟩
    rcases g5 with ⟨g5, g6⟩ | ⟨q1, q2, q3, q4, q5⟩
    · have : f_X5_isSign (b s) = some true := by
        rw [g5]
        rcases g6 with rfl | rfl | rfl | rfl <;> rfl
      rw [ob this, if_neg b2i_t, bnd_eq]
      exact ⟨_, rfl, fin _ g5 (by omega), f6.trans (Fo_up (by decide))⟩
    · have : f_X5_isSign (b s) = some false := by
        unfold f_X5_isSign
        rw [if_neg q1, if_neg q2, if_neg q3, if_neg q4]
      rw [ob this, if_pos b2i_f, bnd_eq]
      exact ⟨_, rfl, fin _ (by rw [q5]; rfl) (by omega), f6.trans (Fo_up (by decide))⟩
end TK
