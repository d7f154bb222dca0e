/-! The class knows a row of descending groups -/
def Hsq (n : Nat) (G : PS) (c : Bool) : Nat → PS
  | 0 => G
  | i + 1 => CmK n (Hsq n G c i) (if c = true then G else Hsq n G c i)
section KN
variable {n db : Nat} {I J : MI} {L M : ML} {a3 : Bool} {G : PS}
theorem cm_cj {a b : Nat → Nat} (hn : n ≤ 10) (ha : IsP n a) (hb : IsP n b) : cm a b = cp (iv a) (cj a b) := by
  funext x
  rw [cm_ap hn ha hb]
  rfl
theorem CmK_le {H K : PS} (hn : n ≤ 10) (hH : Sub n H) (hK : Sub n K) (h : ∀ a k, H a → K k → H (cj a k)) : ∀ p, CmK n H K p → H p := fun p hp => hp H hH h (fun a k ha hk => by
  rw [cm_cj hn (hH.1 a ha) (hK.1 k hk)]
  exact hH.2.2.1 _ _ (hH.2.2.2 _ ha) (h a k ha hk))
theorem Sub_cjj {H : PS} (hH : Sub n H) {a k : Nat → Nat} (ha : H a) (hk : H k) : H (cj a k) := hH.2.2.1 _ _ (hH.2.2.1 _ _ (hH.2.2.2 _ hk) ha) hk
theorem Hsq_ok (hn : n ≤ 10) (hG : Sub n G) : ∀ i, Sub n (Hsq n G a3 i) ∧ (a3 = true → ∀ a k, Hsq n G a3 i a → G k → Hsq n G a3 i (cj a k)) ∧ (∀ p, Hsq n G a3 i p → G p) ∧ (∀ p, Hsq n G a3 (i + 1) p → Hsq n G a3 i p) := by
  intro i
  have key : Sub n (Hsq n G a3 i) → (a3 = true → ∀ a k, Hsq n G a3 i a → G k → Hsq n G a3 i (cj a k)) → (∀ p, Hsq n G a3 (i + 1) p → Hsq n G a3 i p) := fun h1 h2 => by
    refine CmK_le hn h1 ?_ ?_
    · split
      · exact hG
      · exact h1
    · intro a k ha hk
      split at hk
      · exact h2 ‹_› a k ha hk
      · exact Sub_cjj h1 ha hk
  induction i with
  | zero => exact ⟨hG, fun _ a k ha hk => Sub_cjj hG ha hk, fun p hp => hp, key hG (fun _ a k ha hk => Sub_cjj hG ha hk)⟩
  | succ i ih =>
    obtain ⟨h1, h2, h3, h4⟩ := ih (fun h1 h2 => by
      refine CmK_le hn h1 ?_ ?_
      · split
        · exact hG
        · exact h1
      · intro a k ha hk
        split at hk
        · exact h2 ‹_› a k ha hk
        · exact Sub_cjj h1 ha hk)
    have s1 : Sub n (Hsq n G a3 (i + 1)) := CmK_Sub hn h1 (by
      split
      · exact hG
      · exact h1)
    have s2 : a3 = true → ∀ a k, Hsq n G a3 (i + 1) a → G k → Hsq n G a3 (i + 1) (cj a k) := fun e a k ha hk => CmK_cj ha (by rw [if_pos e]; exact hk)
    exact ⟨s1, s2, fun p hp => h3 p (h4 p hp), key s1 s2⟩
theorem Hsq_un {H : Nat → PS} (h : DSq n G a3 H) : ∀ i, H i = Hsq n G a3 i := by
  intro i
  induction i with
  | zero => exact h.1
  | succ i ih => rw [h.2 i, ih]; rfl
theorem Hsq_s (hn : n ≤ 10) (hG : Sub n G) : ∃ s : Nat → Nat, (∀ i, En (Hsq n G a3 i) (s i)) ∧ (∀ i, 0 < s i ∧ s i ≤ 3628800) ∧ (∀ i, s (i + 1) ≤ s i) ∧ (∀ i, s (i + 1) < s i → 2 * s (i + 1) ≤ s i) := by
  have h := fun i => En_ex hn (Hsq_ok (a3 := a3) hn hG i).1
  have hE : ∀ i, En (Hsq n G a3 i) (Classical.choose (h i)) := fun i => Classical.choose_spec (h i)
  have h0 : ∀ i, 0 < Classical.choose (h i) := fun i => by
    obtain ⟨e, _, _, e3⟩ := hE i
    obtain ⟨j, j1, _⟩ := e3 idp (Hsq_ok (a3 := a3) hn hG i).1.2.1
    omega
  refine ⟨fun i => Classical.choose (h i), hE, fun i => ⟨h0 i, En_bd hn (Hsq_ok (a3 := a3) hn hG i).1 (hE i)⟩, fun i => En_le (hE (i + 1)) (hE i) (Hsq_ok hn hG i).2.2.2, fun i hi => ?_⟩
  obtain ⟨c, hc⟩ := lagr hn (Hsq_ok (a3 := a3) hn hG (i + 1)).1 (Hsq_ok hn hG i).1 (Hsq_ok hn hG i).2.2.2 (hE (i + 1)) (hE i)
  dsimp only at hi ⊢
  rcases c with _ | _ | c
  · rw [hc, Nat.zero_mul] at hi; omega
  · rw [hc, Nat.zero_add, Nat.one_mul] at hi; omega
  · rw [hc]; exact Nat.mul_le_mul_right _ (by omega)
/-- what knowing may change -/
def FrK (db : Nat) (I : MI) (L : ML) (J : MI) (M : ML) : Prop := (∀ q, ¬ (15 ≤ q ∧ q ≤ 21) → q ≠ db → q ≠ db + 1 → J q = I q) ∧ (∀ q, ¬ (15 ≤ q ∧ q ≤ 21) → q ≠ db + 2 → M q = L q)
theorem FrK.ch (h : FrK db I L J M) (hdb : 22 ≤ db) (hG : ChG I L 8 n G) : ChG J M 8 n G := hG.fr (h.1 8 (by decide) (by omega) (by omega)) (h.1 9 (by decide) (by omega) (by omega)) (h.1 13 (by decide) (by omega) (by omega)) (h.1 14 (by decide) (by omega) (by omega)) (h.2 8 (by decide) (by omega)) (h.2 10 (by decide) (by omega)) (h.2 11 (by decide) (by omega)) (h.2 12 (by decide) (by omega))
def Gng (db n : Nat) (G : PS) (a3 : Bool) (s : Nat → Nat) (k : Nat) (J : MI) (M : ML) : Prop := J db 3 = nI (k + 1) ∧ (∀ i, i ≤ k → J (db + 1) i = nI (s i)) ∧ (∀ i, i < k → s (i + 1) < s i) ∧ s k * 2 ^ k ≤ 3628800 ∧ ∃ cs sm, cs ≤ 15 ∧ J db 2 = nI cs ∧ (∀ i, i < cs → IsP n (sm i) ∧ M (db + 2) i = tn n (sm i)) ∧ Gen n (MKs cs sm) = Hsq n G a3 k
def Dne (db : Nat) (s : Nat → Nat) (J : MI) : Prop := ∃ cnt, 1 ≤ cnt ∧ cnt ≤ 31 ∧ J db 3 = nI cnt ∧ (∀ i, i < cnt → J (db + 1) i = nI (s i)) ∧ (∀ i, i + 1 < cnt → s (i + 1) < s i) ∧ s cnt = s (cnt - 1)
theorem k21 {k a : Nat} (h : a * 2 ^ k ≤ 3628800) (h0 : 0 < a) : k ≤ 21 := by
  by_cases c : k ≤ 21
  · exact c
  · have h1 : 2 ^ 22 ≤ 2 ^ k := Nat.pow_le_pow_right (by decide) (by omega)
    have h2 : 1 * 2 ^ k ≤ a * 2 ^ k := Nat.mul_le_mul_right _ h0
    omega
theorem size_n {cb N : Nat} {H : PS} (hn : n ≤ 10) (h : ChG I L cb n H) (hE : En H N) : f_X0_size cb I L = some (nI N) := by
  obtain ⟨rb, th, t1, t2, t3⟩ := ChG_tab hn h
  rw [size_eq hn t1 t2.1, En_un hE (En_sz hn t3 t2)]
theorem kn31 {s : Nat → Nat} (hn : n ≤ 10) (hn0 : 0 < n) (hdb : 22 ≤ db) (hG : ChG I L 8 n G) (hs1 : ∀ i, En (Hsq n G a3 i) (s i)) (hs2 : ∀ i, 0 < s i ∧ s i ≤ 3628800) (hs3 : ∀ i, s (i + 1) ≤ s i) (hs4 : ∀ i, s (i + 1) < s i → 2 * s (i + 1) ≤ s i) (h : Gng db n G a3 s 0 J M) (hf : FrK db I L J M) (k0 : MI → ML → Option Mm) : ∃ J' M', f_X1_know_31 db 8 15 a3 k0 FU 1 J M = k0 J' M' ∧ FrK db I L J' M' ∧ Dne db s J' := by
  have hGs : Sub n G := (ChG_tab hn hG).elim (fun _ g => g.elim (fun _ g => g.2.2))
  exact loop0 (fun fu (z : Int32 × MI × ML) => f_X1_know_31 db 8 15 a3 k0 fu z.1 z.2.1 z.2.2) (fun k z => FrK db I L z.2.1 z.2.2 ∧ ((z.1 = 1 ∧ Gng db n G a3 s k z.2.1 z.2.2) ∨ (z.1 = 0 ∧ Dne db s z.2.1))) (fun o => ∃ J' M', o = k0 J' M' ∧ FrK db I L J' M' ∧ Dne db s J') 23 (by omega) (1, J, M) ⟨hf, Or.inl ⟨rfl, h⟩⟩
    (fun fu k z hk hP => by
      obtain ⟨z1, J1, M1⟩ := z
      obtain ⟨p1, p2⟩ := hP
      dsimp only at p1 p2 ⊢
      rcases p2 with ⟨p2, q1, q2, q3, q4, cs, sm, q5, q6, q7, q8⟩ | ⟨p2, p3⟩
      · right
        subst p2
        have hk21 := k21 q4 (hs2 k).1
        have ok := Hsq_ok (a3 := a3) hn hGs k
        obtain ⟨J2, M2, d1, d2, d3⟩ := descend_eq (a3 := a3) hn hn0 (p1.ch hdb hG) q5 q6 q7 hdb (by rw [q8]; exact ok.2.2.1)
        rw [q8] at d3
        obtain ⟨cs2, sm2, J3, M3, t1, t2, t3, t4, t5, t6, t7, t8⟩ := takeM_eq (db := db) hn hn0 d3 (by omega) (by omega)
        have c3 : ChG J3 M3 15 n (Hsq n G a3 (k + 1)) := d3.fr (t6 15 (by omega)) (t6 16 (by omega)) (t6 20 (by omega)) (t6 21 (by omega)) (t8 15 (by omega)) (t8 17 (by omega)) (t8 18 (by omega)) (t8 19 (by omega))
        have sz3 := size_n hn c3 (hs1 (k + 1))
        have e3 : J3 db 3 = nI (k + 1) := by rw [t7 3 (by decide), d2.1 db (by omega) (by omega) (by omega) (by omega)]; exact q1
        have e31 : ∀ i, i ≤ k → J3 (db + 1) i = nI (s i) := fun i hi => by rw [t6 (db + 1) (by omega), d2.1 (db + 1) (by omega) (by omega) (by omega) (by omega)]; exact q2 i hi
        have f3 : FrK db I L J3 M3 := ⟨fun q a b c => by rw [t6 q b, d2.1 q (by omega) (by omega) (by omega) (by omega)]; exact p1.1 q a b c, fun q a b => by rw [t8 q b, d2.2 q (by omega) (by omega) (by omega) (by omega)]; exact p1.2 q a b⟩
        have x1 : ∀ v, up2 J3 (db + 1) (k + 1) v db = J3 db := fun v => up2_ne (by omega)
        have f4 : ∀ v w, FrK db I L (up2 (up2 J3 (db + 1) (k + 1) v) db 3 w) M3 := fun v w => ⟨fun q a b c => by rw [up2_ne b, up2_ne c]; exact f3.1 q a b c, f3.2⟩
        have sk := (hs2 k).2
        have sk1 := (hs2 (k + 1)).2
        refine ⟨by omega, ?_⟩
        rw [f_X1_know_31, if_neg (by decide), q1, if_neg (by rw [show (32 : Int32) = nI 32 from rfl, q_le (by decide) (by omega)]; omega), ob d1]
        dsimp only
        rw [ob t1]
        dsimp only
        rw [ob sz3, e3, q_chk (by omega) (by decide), q_ix (by omega), bnd_eq, x1, e3, q_chk (by omega) (by decide), nI_s1, pk_m1, q_chk (by omega) (by decide), bnd_eq, q_ix (by omega), q_ix (by omega), up2_s, up2_n (by omega), e31 k (Nat.le_refl _), ifc (q_le (by omega) (by omega))]
        by_cases c1 : s k ≤ s (k + 1)
        · rw [if_pos c1]
          dsimp only
          rw [bnd_eq, if_pos b2i_f, bnd_eq]
          refine ⟨(b2i false, up2 (up2 J3 (db + 1) (k + 1) (nI (s (k + 1)))) db 3 (nI (k + 1) + 0), M3), rfl, f4 _ _, Or.inr ⟨rfl, k + 1, by omega, by omega, ?_, fun i hi => ?_, fun i hi => q3 i (by omega), ?_⟩⟩
          · dsimp only
            rw [up2_s]; exact Int32.add_zero _
          · dsimp only
            rw [up2_ne (by omega), up2_n (by omega)]; exact e31 i (by omega)
          · rw [Nat.add_sub_cancel]; exact Nat.le_antisymm (hs3 k) c1
        · rw [if_neg c1]
          dsimp only
          rw [bnd_eq, if_neg b2i_t, bnd_eq, nI_1]
          have h2 := hs4 k (by omega)
          refine ⟨(b2i true, up2 (up2 J3 (db + 1) (k + 1) (nI (s (k + 1)))) db 3 (nI (k + 1 + 1)), M3), rfl, f4 _ _, Or.inl ⟨rfl, ?_, fun i hi => ?_, fun i hi => ?_, ?_, cs2, sm2, t2, ?_, t4, t5⟩⟩
          · dsimp only
            rw [up2_s]
          · dsimp only
            rw [up2_ne (by omega)]
            by_cases e : i = k + 1
            · rw [e, up2_s]
            · rw [up2_n e]; exact e31 i (by omega)
          · by_cases e : i = k
            · rw [e]; omega
            · exact q3 i (by omega)
          · have : s (k + 1) * 2 ^ (k + 1) = 2 * s (k + 1) * 2 ^ k := by rw [Nat.pow_succ, Nat.mul_comm (2 ^ k) 2, ← Nat.mul_assoc, Nat.mul_comm (s (k + 1)) 2]
            rw [this]
            exact Nat.le_trans (Nat.mul_le_mul_right _ h2) q4
          · dsimp only
            rw [up2_n (by decide), x1]; exact t3
      · left
        subst p2
        rw [f_X1_know_31, if_pos rfl]
        exact ⟨J1, M1, rfl, p1, p3⟩)
theorem know_eq (hn : n ≤ 10) (hn0 : 0 < n) (hdb : 22 ≤ db) (hG : ChG I L 8 n G) (hD : Dsc I db n G a3) : ∃ I' L', f_X1_know db 8 15 a3 I L = some (I', L') ∧ FrK db I L I' L' ∧ I' db 4 = 1 ∧ Dsc I' db n G a3 := by
  have hGs : Sub n G := (ChG_tab hn hG).elim (fun _ g => g.elim (fun _ g => g.2.2))
  unfold f_X1_know
  by_cases c0 : I db 4 = 0
  · rw [if_pos c0]
    obtain ⟨s, s1, s2, s3, s4⟩ := Hsq_s (a3 := a3) hn hGs
    obtain ⟨cs2, sm2, J3, M3, t1, t2, t3, t4, t5, t6, t7, t8⟩ := takeM_eq (db := db) hn hn0 hG (by omega) (by omega)
    have c3 : ChG J3 M3 8 n G := hG.fr (t6 8 (by omega)) (t6 9 (by omega)) (t6 13 (by omega)) (t6 14 (by omega)) (t8 8 (by omega)) (t8 10 (by omega)) (t8 11 (by omega)) (t8 12 (by omega))
    have sz3 := size_n hn c3 (s1 0)
    rw [ob t1]
    dsimp only
    rw [ob sz3, show (0 : Int32) = nI 0 from rfl, q_chk (by decide) (by decide), bnd_eq, bnd_eq, q_ix (by decide)]
    obtain ⟨J', M', k1, k2, cnt, k3, k4, k5, k6, k7, k8⟩ := kn31 (a3 := a3) (I := I) (L := L) (J := up2 (up2 J3 (db + 1) 0 (nI (s 0))) db 3 1) (M := M3) hn hn0 hdb hG s1 s2 s3 s4 ⟨up2_s, fun i hi => by
        obtain rfl : i = 0 := by omega
        rw [up2_ne (by omega), up2_s], fun i hi => by omega, by have := (s2 0).2; omega, cs2, sm2, t2, by rw [up2_n (by decide), up2_ne (by omega)]; exact t3, t4, t5⟩ ⟨fun q a b c => by rw [up2_ne b, up2_ne c, t6 q b], fun q a b => t8 q b⟩ (fun (I_16 : MI) (L_17 : ML) => bnd (up2 I_16 db 4 1) (fun I_18 => some (I_18, L_17)))
    refine ⟨up2 J' db 4 1, M', ?_, ⟨fun q a b c => by rw [up2_ne b]; exact k2.1 q a b c, k2.2⟩, up2_s, Or.inr ⟨up2_s, Hsq n G a3, cnt, s, ⟨rfl, fun _ => rfl⟩, k3, k4, by rw [up2_n (by decide)]; exact k5, fun i _ => s1 i, fun i hi => by rw [up2_ne (by omega)]; exact k6 i hi, k7, k8⟩⟩
    rw [k1, bnd_eq]
  · rw [if_neg c0]
    exact ⟨I, L, rfl, ⟨fun _ _ _ _ => rfl, fun _ _ _ => rfl⟩, (hD.resolve_left c0).1, hD⟩
end KN
