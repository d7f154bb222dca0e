/-! Printing cycles -/
section PN
variable {n m rm : Nat} {mv : Nat → Nat → Nat} {st : Nat → Nat} {I : MI} {L : ML} {p : Nat → Nat}
def nb (v : Int32) : Int32 := vp_nar .byte (i2b v)
def ct (p : Nat → Nat) (i : Nat) : Nat → List Int32
  | 0 => []
  | t + 1 => ct p i t ++ [nb 32, nb (48 + nI (pw p (t + 1) i))]
def cyo (p : Nat → Nat) (i : Nat) : List Int32 := if mn p i = true ∧ 2 ≤ cl p i then [nb 40, nb (48 + nI i)] ++ ct p i (cl p i - 1) ++ [nb 41] else []
def plo (p : Nat → Nat) : Nat → List Int32
  | 0 => []
  | i + 1 => plo p i ++ cyo p i
def fno (p : Nat → Nat) (n : Nat) : List Int32 := if (plo p n).length = 0 then [nb 40, nb 41] else plo p n
theorem ct_len (i : Nat) : ∀ t, (ct p i t).length = 2 * t := by
  intro t
  induction t with
  | zero => rfl
  | succ t ih =>
    show (ct p i t ++ [nb 32, nb (48 + nI (pw p (t + 1) i))]).length = _
    rw [List.length_append, ih]; rfl
theorem cT_app {P : Nat → Bool} {a : Nat} : ∀ c, (∀ i, a ≤ i → i < a + c → P i = true) → cT P (a + c) = cT P a + c := by
  intro c
  induction c with
  | zero => intro _; rfl
  | succ c ih =>
    intro h
    rw [← Nat.add_assoc, cT_t (h (a + c) (by omega) (by omega)), ih (fun i h1 h2 => h i h1 (by omega))]
    omega
def sn (p : Nat → Nat) (i x : Nat) : Prop := ∃ j, j < i ∧ ∃ k, pw p k j = x
theorem sn_mn (hn : n ≤ 10) (hp : IsP n p) {i : Nat} (hi : i < n) : mn p i = true ↔ ¬ sn p i i := by
  rw [mn_iff hn hp hi]
  constructor
  · intro h ⟨j, hj, k, hk⟩
    obtain ⟨k', hk'⟩ := pw_back hn hp (show j < n by omega) k
    rw [hk] at hk'
    have := h k'
    omega
  · intro h k
    refine Nat.le_of_not_lt fun hlt => h ⟨pw p k i, hlt, ?_⟩
    obtain ⟨k', hk'⟩ := pw_back hn hp hi k
    exact ⟨k', hk'⟩
theorem cnt_add (hn : n ≤ 10) (hp : IsP n p) {i : Nat} (hi : i < n) (hm : mn p i = true) {B B' : Nat → Bool} (hB : ∀ x, B x = true ↔ sn p i x) (hB' : ∀ x, B' x = true ↔ sn p (i + 1) x) : cT B n + cl p i ≤ cT B' n := by
  obtain ⟨c1, c2, c3, c4⟩ := cl_spec hn hp hi
  have hns := (sn_mn hn hp hi).mp hm
  have e1 : cT (fun y => if y < n then B y else true) (n + cl p i) = cT B n + cl p i := by
    rw [cT_app (cl p i) (fun y h1 h2 => if_neg (by omega))]
    rw [cT_ext (P := fun y => if y < n then B y else true) (Q := B) n (fun y hy => if_pos hy)]
  rw [← e1]
  refine cT_bij (fun y => if y < n then y else pw p (y - n) i) (fun y hy hP => ?_) (fun y z hy hz hP hQ h => ?_)
  · try dsimp only at hP ⊢
    by_cases c : y < n
    · rw [if_pos c] at hP ⊢
      obtain ⟨j, hj, k, hk⟩ := (hB y).mp hP
      exact ⟨c, (hB' y).mpr ⟨j, by omega, k, hk⟩⟩
    · rw [if_neg c]
      exact ⟨pw_lt hp hi _, (hB' _).mpr ⟨i, by omega, y - n, rfl⟩⟩
  · try dsimp only at hP hQ h
    have no : ∀ y, y < n → B y = true → ∀ t, y = pw p t i → False := fun y hy hb t ht => by
      obtain ⟨j, hj, k, hk⟩ := (hB y).mp hb
      obtain ⟨k', hk'⟩ := pw_back hn hp hi t
      rw [← ht, ← hk, ← pw_ad] at hk'
      exact hns ⟨j, hj, _, hk'⟩
    by_cases c : y < n
    · rw [if_pos c] at hP h
      by_cases d : z < n
      · rw [if_pos d] at h; exact h
      · rw [if_neg d] at h; exact absurd h (fun g => no y c hP _ g)
    · rw [if_neg c] at h
      by_cases d : z < n
      · rw [if_pos d] at h hQ; exact absurd h.symm (fun g => no z d hQ _ g)
      · rw [if_neg d] at h
        have key : ∀ a b, a < b → b < cl p i → pw p a i = pw p b i → False := fun a b hab hb hh => by
          have h5 : pw p (b - a) (pw p a i) = pw p a i := by rw [← pw_ad, show a + (b - a) = b by omega]; exact hh.symm
          obtain ⟨k', hk'⟩ := pw_back hn hp hi a
          have h6 : pw p (b - a) i = i := by
            have : pw p (k' + (b - a)) (pw p a i) = pw p ((b - a) + k') (pw p a i) := by rw [Nat.add_comm]
            rw [pw_ad, pw_ad, hk', h5, hk'] at this
            exact this
          exact c4 (b - a) (by omega) (by omega) h6
        rcases Nat.lt_trichotomy (y - n) (z - n) with g | g | g
        · exact absurd h (fun g2 => key _ _ g (by omega) g2)
        · omega
        · exact absurd h.symm (fun g2 => key _ _ g (by omega) g2)
theorem plo_len (hn : n ≤ 10) (hp : IsP n p) : ∀ i, i ≤ n → ∀ B : Nat → Bool, (∀ x, B x = true ↔ sn p i x) → (plo p i).length ≤ 3 * cT B n := by
  intro i
  induction i with
  | zero => intro _ B _; exact Nat.zero_le _
  | succ i ih =>
    intro hi B hB
    obtain ⟨B0, hB0⟩ := dec_ex (sn p i)
    have h1 := ih (by omega) B0 hB0
    show (plo p i ++ cyo p i).length ≤ _
    rw [List.length_append]
    unfold cyo
    by_cases c : mn p i = true ∧ 2 ≤ cl p i
    · have h2 := cnt_add hn hp (show i < n by omega) c.1 hB0 hB
      rw [if_pos c, List.length_append, List.length_append, ct_len]
      simp only [List.length_cons, List.length_nil]
      omega
    · rw [if_neg c]
      have h3 : cT B0 n ≤ cT B n := cT_imp (fun x hx => by
        obtain ⟨j, hj, k, hk⟩ := (hB0 x).mp hx
        exact (hB x).mpr ⟨j, by omega, k, hk⟩) n
      simp only [List.length_nil]
      omega
theorem plo_30 (hn : n ≤ 10) (hp : IsP n p) {i : Nat} (hi : i ≤ n) : (plo p i).length ≤ 30 := by
  obtain ⟨B, hB⟩ := dec_ex (sn p i)
  have h1 := plo_len hn hp i hi B hB
  have := cT_le B n
  omega
/-- what a memory has printed -/
def Wm (I : MI) (b c s : Nat) (l : List Int32) : Prop := I c s = nI l.length ∧ ∀ j, j < l.length → I b j = l.getD j 0
def Fw (b c s : Nat) (I I' : MI) : Prop := (∀ q, q ≠ b → q ≠ c → I' q = I q) ∧ ∀ j, j ≠ s → I' c j = I c j
theorem Fw.refl {b c s : Nat} : Fw b c s I I := ⟨fun _ _ _ => rfl, fun _ _ => rfl⟩
theorem Fw.trans {b c s : Nat} {I' I'' : MI} (h : Fw b c s I I') (g : Fw b c s I' I'') : Fw b c s I I'' := ⟨fun q h1 h2 => (g.1 q h1 h2).trans (h.1 q h1 h2), fun j hj => (g.2 j hj).trans (h.2 j hj)⟩
theorem Wm_app {b c s : Nat} {l : List Int32} {v : Int32} (hbc : b ≠ c) (h : Wm I b c s l) : Wm (up2 (up2 I b l.length v) c s (nI (l.length + 1))) b c s (l ++ [v]) ∧ Fw b c s I (up2 (up2 I b l.length v) c s (nI (l.length + 1))) := by
  refine ⟨⟨by rw [up2_s, List.length_append]; rfl, fun j hj => ?_⟩, fun q h1 h2 => by rw [up2_ne h2, up2_ne h1], fun j hj => by rw [up2_n hj, up2_ne (fun g => hbc g.symm)]⟩
  rw [List.length_append] at hj
  have hj : j < l.length + 1 := hj
  rw [up2_ne hbc]
  by_cases e1 : j = l.length
  · rw [e1, up2_s, List.getD_eq_getElem?_getD, List.getElem?_append_right (Nat.le_refl _), Nat.sub_self]; rfl
  · rw [up2_n e1, List.getD_eq_getElem?_getD, List.getElem?_append_left (by omega), ← List.getD_eq_getElem?_getD]; exact h.2 j (by omega)
theorem pB_eq {l : List Int32} {v : Int32} (h : Wm I 42 0 4 l) (hl : l.length < 32) : ∃ I', f_X7_printByte v I L = some (I', L) ∧ Wm I' 42 0 4 (l ++ [nb v]) ∧ Fw 42 0 4 I I' := by
  unfold f_X7_printByte
  rw [if_neg (show ¬ 32 ≤ I 0 4 by rw [h.1, show (32 : Int32) = nI 32 from rfl, q_le (by decide) (by omega)]; omega), h.1, q_chk (by omega) (by decide), bnd_eq, q_ix (by omega), up2_ne (show 0 ≠ 42 by decide), h.1, nI_1, bnd_eq]
  exact ⟨_, rfl, (Wm_app (v := nb v) (by decide) h).1, (Wm_app (v := nb v) (by decide) h).2⟩
theorem wr8_eq {l : List Int32} {v : Int32} (h : Wm I 65 43 28 l) (hl : l.length < 40) : ∃ I', f_X8_writes v I L = some (I', L) ∧ Wm I' 65 43 28 (l ++ [nb v]) ∧ Fw 65 43 28 I I' := by
  unfold f_X8_writes
  rw [h.1, q_chk (by omega) (by decide), bnd_eq, q_ix (by omega), up2_ne (show 43 ≠ 65 by decide), h.1, nI_1, bnd_eq]
  exact ⟨_, rfl, (Wm_app (v := nb v) (by decide) h).1, (Wm_app (v := nb v) (by decide) h).2⟩
theorem pc29 {i : Nat} {l : List Int32} {b0 : Nat} (hn : n ≤ 10) (hp : IsP n p) (hi : i < n) (hl : l.length + 2 * (cl p i - 1) ≤ 31) (h : Wm I 42 0 4 l) (hb0 : b0 = 2 ^ i) (k0 : Int32 → MI → ML → Option (Int32 × Mm)) : ∃ b I', f_X7_printCycle_29 (tn n p) (nI i) k0 FU (nI b0) (nI (p i)) 0 I L = k0 (nI b) I' L ∧ Wm I' 42 0 4 (l ++ ct p i (cl p i - 1)) ∧ Fw 42 0 4 I I' ∧ Rp2 n b (fun x => ∃ k, pw p k i = x) := by
  obtain ⟨c1, c2, c3, c4⟩ := cl_spec hn hp hi
  have := loop0 (fun fu (z : Int32 × Int32 × Int32 × MI × ML) => f_X7_printCycle_29 (tn n p) (nI i) k0 fu z.1 z.2.1 z.2.2.1 z.2.2.2.1 z.2.2.2.2) (fun t z => t + 1 ≤ cl p i ∧ z.2.1 = nI (pw p (t + 1) i) ∧ z.2.2.1 = nI t ∧ z.2.2.2.2 = L ∧ Wm z.2.2.2.1 42 0 4 (l ++ ct p i t) ∧ Fw 42 0 4 I z.2.2.2.1 ∧ ∃ b, z.1 = nI b ∧ b < 2 ^ n ∧ ∀ x, b.testBit x = true ↔ ∃ k, k ≤ t ∧ pw p k i = x) (fun o => ∃ b I', o = k0 (nI b) I' L ∧ Wm I' 42 0 4 (l ++ ct p i (cl p i - 1)) ∧ Fw 42 0 4 I I' ∧ Rp2 n b (fun x => ∃ k, pw p k i = x)) (cl p i - 1) (by omega) (nI b0, nI (p i), nI 0, I, L) ⟨c1, rfl, rfl, rfl, by show Wm I 42 0 4 (l ++ []); rw [List.append_nil]; exact h, Fw.refl, b0, rfl, by rw [hb0]; exact Nat.pow_lt_pow_right (by decide) hi, fun x => by
      rw [hb0, tb2p]
      exact ⟨fun g => ⟨0, Nat.le_refl _, g.symm⟩, fun ⟨k, hk, g⟩ => by rw [← g, show k = 0 by omega]; rfl⟩⟩
    (fun fu t z ht hP => by
      obtain ⟨z1, z2, z3, K, M⟩ := z
      obtain ⟨p0, p1, p2, p3, p4, p5, b, p6, p7, p8⟩ := hP
      dsimp only at p1 p2 p3 p4 p5 p6 ⊢
      subst p1 p2 p3 p6
      have hx := pw_lt hp hi (t + 1)
      rw [f_X7_printCycle_29, show (10 : Int32) = nI 10 from rfl, if_neg (by rw [q_le (by decide) (by omega)]; omega), ifc (q_eq (by omega) (by omega))]
      by_cases e1 : t + 1 = cl p i
      · left
        rw [if_pos (by rw [e1]; exact c3)]
        refine ⟨b, K, rfl, by rw [show cl p i - 1 = t by omega]; exact p4, p5, p7, fun x => (p8 x).trans ⟨fun ⟨k, _, g⟩ => ⟨k, g⟩, fun ⟨k, g⟩ => ⟨k % cl p i, ?_, ?_⟩⟩⟩
        · have := Nat.mod_lt k (show 0 < cl p i by omega); omega
        · rw [← pw_mod hn hp hi]; exact g
      · right
        have ll : (l ++ ct p i t).length = l.length + 2 * t := by rw [List.length_append, ct_len]
        obtain ⟨K1, g1, g2, g3⟩ := pB_eq (L := M) (v := 32) p4 (by omega)
        obtain ⟨K2, k1, k2, k3⟩ := pB_eq (L := M) (v := 48 + nI (pw p (t + 1) i)) g2 (by rw [List.length_append]; show (l ++ ct p i t).length + 1 < 32; omega)
        have h2n := (two_n hn).2
        refine ⟨by omega, (nI (b ||| 2 ^ pw p (t + 1) i), nI (pw p (t + 1 + 1) i), nI (t + 1), K2, M), ?_, by omega, rfl, rfl, rfl, ?_, (p5.trans g3).trans k3, _, rfl, Nat.or_lt_two_pow p7 (Nat.pow_lt_pow_right (by decide) hx), fun x => ?_⟩
        · rw [if_neg (c4 (t + 1) (by omega) (by omega)), ob g1]
          dsimp only
          rw [ob k1, bnd_eq, q_shl1 (by omega), q_or]
          dsimp only
          rw [ob (tn_img hn hp hx), bnd_eq, nI_1, pw_s (t + 1) i]
        · show Wm K2 42 0 4 (l ++ (ct p i t ++ [nb 32, nb (48 + nI (pw p (t + 1) i))]))
          rw [List.append_assoc] at k2
          rw [← List.append_assoc]
          exact k2
        · rw [Nat.testBit_or, Bool.or_eq_true, p8 x, tb2p]
          constructor
          · intro g
            rcases g with ⟨k, hk, g⟩ | g
            · exact ⟨k, by omega, g⟩
            · exact ⟨t + 1, by omega, g.symm⟩
          · intro ⟨k, hk, g⟩
            by_cases e2 : k = t + 1
            · right; rw [← g, e2]
            · left; exact ⟨k, by omega, g⟩)
  rw [nI_0] at this
  exact this
theorem pcyc {i : Nat} {l : List Int32} (hn : n ≤ 10) (hp : IsP n p) (hi : i < n) (hl : l.length + 2 * cl p i + 1 ≤ 32) (h : Wm I 42 0 4 l) : ∃ b I', f_X7_printCycle (tn n p) (nI i) I L = some (nI b, I', L) ∧ Wm I' 42 0 4 (l ++ ([nb 40, nb (48 + nI i)] ++ ct p i (cl p i - 1) ++ [nb 41])) ∧ Fw 42 0 4 I I' ∧ Rp2 n b (fun x => ∃ k, pw p k i = x) := by
  obtain ⟨c1, c2, c3, c4⟩ := cl_spec hn hp hi
  obtain ⟨K1, g1, g2, g3⟩ := pB_eq (L := L) (v := 40) h (by omega)
  obtain ⟨K2, k1, k2, k3⟩ := pB_eq (L := L) (v := 48 + nI i) g2 (by rw [List.length_append]; show l.length + 1 < 32; omega)
  have ll : (l ++ [nb 40] ++ [nb (48 + nI i)]).length = l.length + 2 := by rw [List.length_append, List.length_append]; rfl
  generalize hk0 : (fun (v4_17 : Int32) (I_18 : MI) (L_19 : ML) => Option.bind (f_X7_printByte 41 I_18 L_19) (fun q_20 => some (v4_17, q_20.1, q_20.2))) = k0
  obtain ⟨b, K3, u1, u2, u3, u4⟩ := pc29 (L := L) hn hp hi (by rw [ll]; omega) k2 rfl k0
  obtain ⟨K4, v1, v2, v3⟩ := pB_eq (L := L) (v := 41) u2 (by rw [List.length_append, ll, ct_len]; omega)
  refine ⟨b, K4, ?_, ?_, ((g3.trans k3).trans u3).trans v3, u4⟩
  · unfold f_X7_printCycle
    rw [ob g1]
    dsimp only
    rw [ob k1, bnd_eq, q_shl1 (by omega)]
    dsimp only
    rw [ob (tn_img hn hp hi), hk0, u1, ← hk0]
    dsimp only
    rw [ob v1]
  · have e : l ++ [nb 40] ++ [nb (48 + nI i)] ++ ct p i (cl p i - 1) ++ [nb 41] = l ++ ([nb 40, nb (48 + nI i)] ++ ct p i (cl p i - 1) ++ [nb 41]) := by simp
    rw [← e]; exact v2
theorem cyo_len (hn : n ≤ 10) (hp : IsP n p) {i : Nat} (hi : i < n) (hm : mn p i = true) (h2 : 2 ≤ cl p i) : (plo p i).length + 2 * cl p i + 1 ≤ 30 := by
  have := plo_30 hn hp (show i + 1 ≤ n by omega)
  have e : (plo p (i + 1)).length = (plo p i).length + (2 + 2 * (cl p i - 1) + 1) := by
    show (plo p i ++ cyo p i).length = _
    unfold cyo
    rw [if_pos ⟨hm, h2⟩, List.length_append, List.length_append, List.length_append, ct_len]
    rfl
  omega
theorem pcs10 (hn : n ≤ 10) (hp : IsP n p) (h6 : I 6 0 = nI n) (h : Wm I 42 0 4 []) (k0 : MI → ML → Option Mm) : ∃ I', f_X7_printCycles_10 (tn n p) k0 FU 0 0 I L = k0 I' L ∧ Wm I' 42 0 4 (plo p n) ∧ Fw 42 0 4 I I' := by
  have h2n := (two_n hn).2
  have := loop0 (fun fu (z : Int32 × Int32 × MI × ML) => f_X7_printCycles_10 (tn n p) k0 fu z.1 z.2.1 z.2.2.1 z.2.2.2) (fun i z => i ≤ n ∧ z.2.1 = nI i ∧ z.2.2.2 = L ∧ Wm z.2.2.1 42 0 4 (plo p i) ∧ Fw 42 0 4 I z.2.2.1 ∧ ∃ s, z.1 = nI s ∧ Rp2 n s (sn p i)) (fun o => ∃ I', o = k0 I' L ∧ Wm I' 42 0 4 (plo p n) ∧ Fw 42 0 4 I I') n (by omega) (nI 0, nI 0, I, L) ⟨Nat.zero_le _, rfl, rfl, h, Fw.refl, 0, rfl, Nat.two_pow_pos n, fun x => by rw [Nat.zero_testBit]; exact ⟨(fun g => by cases g), fun ⟨j, hj, _⟩ => by omega⟩⟩
    (fun fu i z hi hP => by
      obtain ⟨z1, z2, K, M⟩ := z
      obtain ⟨_, p1, p2, p3, p4, s, p5, p6⟩ := hP
      dsimp only at p1 p2 p3 p4 p5 ⊢
      subst p1 p2 p5
      have e6 : K 6 0 = nI n := by rw [p4.1 6 (by decide) (by decide)]; exact h6
      rw [f_X7_printCycles_10, e6, ifc (q_le (by omega) (by omega))]
      by_cases c1 : n ≤ i
      · left
        have ei : i = n := by omega
        subst ei
        rw [if_pos c1]
        exact ⟨K, rfl, p3, p4⟩
      · right
        have hi2 : i < n := by omega
        obtain ⟨c1', c2', c3', c4'⟩ := cl_spec hn hp hi2
        refine ⟨hi2, ?_⟩
        rw [if_neg c1, bnd_eq]
        dsimp only
        rw [ifc (q_bit0 (by have := p6.1; omega) (by omega))]
        cases hb : s.testBit i
        · have hm : mn p i = true := (sn_mn hn hp hi2).mpr (fun g => by rw [(p6.2 i).mpr g] at hb; cases hb)
          rw [if_pos rfl, bnd_eq, bnd_eq, if_neg b2i_t, q_shl1 (by omega), q_or, ob (tn_img hn hp hi2)]
          have hpi := hp.1 i hi2
          rw [ifc (q_eq (by omega) (by omega))]
          by_cases c2 : p i = i
          · have ecl : ¬ 2 ≤ cl p i := fun g => c4' 1 (by omega) (by omega) c2
            refine ⟨(nI (s ||| 2 ^ i), nI (i + 1), K, M), ?_, by omega, rfl, rfl, ?_, p4, _, rfl, Nat.or_lt_two_pow p6.1 (Nat.pow_lt_pow_right (by decide) hi2), fun x => ?_⟩
            · rw [if_pos c2, bnd_eq, nI_1]
            · show Wm K 42 0 4 (plo p i ++ cyo p i)
              unfold cyo
              rw [if_neg (fun g => ecl g.2), List.append_nil]; exact p3
            · rw [Nat.testBit_or, Bool.or_eq_true, p6.2 x, tb2p]
              constructor
              · intro g
                rcases g with ⟨j, hj, g⟩ | g
                · exact ⟨j, by omega, g⟩
                · exact ⟨i, by omega, 0, g.symm⟩
              · intro ⟨j, hj, k, g⟩
                by_cases e1 : j = i
                · right
                  subst e1
                  have : ∀ k, pw p k j = j := fun k => by
                    induction k with
                    | zero => rfl
                    | succ k ih => rw [pw_s, ih, c2]
                  rw [← g, this]
                · left; exact ⟨j, by omega, k, g⟩
          · have ecl : 2 ≤ cl p i := by
              refine Nat.le_of_not_lt fun hlt => c2 ?_
              rw [show cl p i = 1 by omega] at c3'
              exact c3'
            have hlen := cyo_len hn hp hi2 hm ecl
            obtain ⟨b, K1, g1, g2, g3, g4⟩ := pcyc (L := M) hn hp hi2 (by omega) p3
            refine ⟨(nI (s ||| 2 ^ i ||| b), nI (i + 1), K1, M), ?_, by omega, rfl, rfl, ?_, p4.trans g3, _, rfl, Nat.or_lt_two_pow (Nat.or_lt_two_pow p6.1 (Nat.pow_lt_pow_right (by decide) hi2)) g4.1, fun x => ?_⟩
            · rw [if_neg c2, ob g1]
              dsimp only
              rw [bnd_eq, bnd_eq, q_or, nI_1]
            · show Wm K1 42 0 4 (plo p i ++ cyo p i)
              unfold cyo
              rw [if_pos ⟨hm, ecl⟩]; exact g2
            · rw [Nat.testBit_or, Nat.testBit_or, Bool.or_eq_true, Bool.or_eq_true, p6.2 x, tb2p, g4.2 x]
              constructor
              · intro g
                rcases g with (⟨j, hj, g⟩ | g) | ⟨k, g⟩
                · exact ⟨j, by omega, g⟩
                · exact ⟨i, by omega, 0, g.symm⟩
                · exact ⟨i, by omega, k, g⟩
              · intro ⟨j, hj, k, g⟩
                by_cases e1 : j = i
                · right; subst e1; exact ⟨k, g⟩
                · left; left; exact ⟨j, by omega, k, g⟩
        · have hsn := (p6.2 i).mp hb
          have hm : ¬ mn p i = true := fun g => (sn_mn hn hp hi2).mp g hsn
          refine ⟨(nI (s ||| 2 ^ i), nI (i + 1), K, M), ?_, by omega, rfl, rfl, ?_, p4, _, rfl, Nat.or_lt_two_pow p6.1 (Nat.pow_lt_pow_right (by decide) hi2), fun x => ?_⟩
          · rw [if_neg (by decide), bnd_eq, bnd_eq, if_pos b2i_f, bnd_eq, q_shl1 (by omega), q_or, nI_1]
          · show Wm K 42 0 4 (plo p i ++ cyo p i)
            unfold cyo
            rw [if_neg (fun g => hm g.1), List.append_nil]; exact p3
          · rw [Nat.testBit_or, Bool.or_eq_true, p6.2 x, tb2p]
            obtain ⟨j0, hj0, k0', hk0⟩ := hsn
            constructor
            · intro g
              rcases g with ⟨j, hj, g⟩ | g
              · exact ⟨j, by omega, g⟩
              · exact ⟨i, by omega, 0, g.symm⟩
            · intro ⟨j, hj, k, g⟩
              left
              by_cases e1 : j = i
              · subst e1
                exact ⟨j0, hj0, k0' + k, by rw [pw_ad, hk0]; exact g⟩
              · exact ⟨j, by omega, k, g⟩)
  rw [nI_0] at this
  exact this
end PN
