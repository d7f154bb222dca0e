/-! A chain of the class descends by commutators -/
section DE
variable {n db ct : Nat} {I J : MI} {L M : ML} {a3 : Bool} {tm : Nat → Nat → Nat} {B : PS}
/-- where the second makers come from -/
def DT (I : MI) (L : ML) (db n : Nat) (a3 : Bool) (ct : Nat) (tm : Nat → Nat → Nat) : Prop := ct ≤ 15 ∧ (∀ i, i < ct → IsP n (tm i)) ∧ ∀ (J : MI) (M : ML), FrC 15 I L J M → ∀ i, i < ct → ∀ j : Int64 → Option Mm, bnd j (fun j' => if (b2i a3) = 0 then chk (inb (nI i) 16) (j' (M (db + 2) (ix (nI i)))) else Option.bind (f_X0_maker 8 (nI i) J M) (fun q => j' q)) = j (tn n (tm i))
theorem Gen_add {K : PS} {p : Nat → Nat} (hB : Sub n B) (hK : ∀ q, K q → B q) (hp : B p) : (∀ q, K q → Gen n (fun q => K q ∨ q = p) q) ∧ (∀ q, Gen n (fun q => K q ∨ q = p) q → B q) ∧ Gen n (fun q => K q ∨ q = p) p :=
  ⟨fun q hq => Gen_in (Or.inl hq), fun q hq => Gen_le hB (fun a ha => ha.elim (hK a) (fun e => e ▸ hp)) q hq, Gen_in (Or.inr rfl)⟩
theorem de44 {K0 : PS} {sm : Nat → Nat} {si : Nat} (hn : n ≤ 10) (hD : DT I L db n a3 ct tm) (hsi : si < 16) (hs : L (db + 2) si = tn n sm) (hsP : IsP n sm) (hdb : 22 ≤ db) (hB : Sub n B) (hcm : ∀ t, t < ct → B (cm sm (tm t))) (h0 : ChG J M 15 n K0) (hK0 : ∀ p, K0 p → B p) (hf : FrC 15 I L J M) (k0 : MI → ML → Option Mm) : ∃ J' M' K, f_X1_descend_44 db 8 15 a3 (nI n) (nI ct) (nI si) k0 FU 0 J M = k0 J' M' ∧ FrC 15 I L J' M' ∧ ChG J' M' 15 n K ∧ (∀ p, K0 p → K p) ∧ (∀ p, K p → B p) ∧ ∀ t, t < ct → K (cm sm (tm t)) := by
  have hct := hD.1
  have := loop0 (fun fu (z : Int32 × MI × ML) => f_X1_descend_44 db 8 15 a3 (nI n) (nI ct) (nI si) k0 fu z.1 z.2.1 z.2.2) (fun i z => i ≤ ct ∧ z.1 = nI i ∧ FrC 15 I L z.2.1 z.2.2 ∧ ∃ K, ChG z.2.1 z.2.2 15 n K ∧ (∀ p, K0 p → K p) ∧ (∀ p, K p → B p) ∧ ∀ t, t < i → K (cm sm (tm t))) (fun o => ∃ J' M' K, o = k0 J' M' ∧ FrC 15 I L J' M' ∧ ChG J' M' 15 n K ∧ (∀ p, K0 p → K p) ∧ (∀ p, K p → B p) ∧ ∀ t, t < ct → K (cm sm (tm t))) ct (by omega) (nI 0, J, M) ⟨Nat.zero_le _, rfl, hf, K0, h0, fun _ h => h, hK0, fun t ht => by omega⟩
    (fun fu i z hi hP => by
      obtain ⟨z1, J1, M1⟩ := z
      obtain ⟨_, p1, p2, K, p3, p4, p5, p6⟩ := hP
      dsimp only at p1 p2 p3 ⊢
      subst p1
      rw [f_X1_descend_44, ifc (q_le (by omega) (by omega))]
      by_cases c1 : ct ≤ i
      · left
        rw [if_pos c1]
        exact ⟨J1, M1, K, rfl, p2, p3, p4, p5, fun t ht => p6 t (by omega)⟩
      · right
        have tP := hD.2.1 i (by omega)
        obtain ⟨c, hc⟩ := em_B (¬ K (cm sm (tm i)))
        obtain ⟨J2, M2, g1, g2, g3⟩ := grow_eq hn p3 (IsP_cm hn hsP tP) hc
        obtain ⟨e1, e2, e3⟩ := Gen_add hB p5 (hcm i (by omega))
        refine ⟨by omega, (nI (i + 1), J2, M2), ?_, by omega, rfl, p2.trans g3, _, g2, fun p hp => e1 p (p4 p hp), e2, fun t ht => ?_⟩
        · rw [if_neg c1, hD.2.2 J1 M1 p2 i (by omega), q_chk (by omega) (by decide), q_ix (by omega), p2.2 (db + 2) (by omega) (by omega) (by omega) (by omega), hs, ob (commutatorOf_eq hn hsP tP), ob g1, bnd_eq, nI_1]
        · by_cases e : t = i
          · rw [e]; exact e3
          · exact e1 _ (p6 t (by omega)))
  rw [nI_0] at this
  exact this
theorem de32 {K0 : PS} {sm : Nat → Nat → Nat} {cs : Nat} (hn : n ≤ 10) (hD : DT I L db n a3 ct tm) (hcs : cs ≤ 15) (h2 : I db 2 = nI cs) (hs : ∀ i, i < cs → IsP n (sm i) ∧ L (db + 2) i = tn n (sm i)) (hdb : 22 ≤ db) (hB : Sub n B) (hcm : ∀ i t, i < cs → t < ct → B (cm (sm i) (tm t))) (h0 : ChG J M 15 n K0) (hK0 : ∀ p, K0 p → B p) (hf : FrC 15 I L J M) (k0 : MI → ML → Option Mm) : ∃ J' M' K, f_X1_descend_32 db 8 15 a3 (nI n) (nI ct) k0 FU 0 J M = k0 J' M' ∧ FrC 15 I L J' M' ∧ ChG J' M' 15 n K ∧ (∀ p, K p → B p) ∧ ∀ i t, i < cs → t < ct → K (cm (sm i) (tm t)) := by
  have := loop0 (fun fu (z : Int32 × MI × ML) => f_X1_descend_32 db 8 15 a3 (nI n) (nI ct) k0 fu z.1 z.2.1 z.2.2) (fun i z => i ≤ cs ∧ z.1 = nI i ∧ FrC 15 I L z.2.1 z.2.2 ∧ ∃ K, ChG z.2.1 z.2.2 15 n K ∧ (∀ p, K p → B p) ∧ ∀ s t, s < i → t < ct → K (cm (sm s) (tm t))) (fun o => ∃ J' M' K, o = k0 J' M' ∧ FrC 15 I L J' M' ∧ ChG J' M' 15 n K ∧ (∀ p, K p → B p) ∧ ∀ i t, i < cs → t < ct → K (cm (sm i) (tm t))) cs (by omega) (nI 0, J, M) ⟨Nat.zero_le _, rfl, hf, K0, h0, hK0, fun s t ht => by omega⟩
    (fun fu i z hi hP => by
      obtain ⟨z1, J1, M1⟩ := z
      obtain ⟨_, p1, p2, K, p3, p5, p6⟩ := hP
      dsimp only at p1 p2 p3 ⊢
      subst p1
      rw [f_X1_descend_32, p2.1 db (by omega) (by omega) (by omega) (by omega), h2, ifc (q_le (by omega) (by omega))]
      by_cases c1 : cs ≤ i
      · left
        rw [if_pos c1]
        exact ⟨J1, M1, K, rfl, p2, p3, p5, fun s t hs ht => p6 s t (by omega) ht⟩
      · right
        rw [if_neg c1]
        obtain ⟨J2, M2, K2, g1, g2, g3, g4, g5, g6⟩ := de44 (si := i) hn hD (by omega) (hs i (by omega)).2 (hs i (by omega)).1 hdb hB (fun t ht => hcm i t (by omega) ht) p3 p5 p2 (fun (I_21 : MI) (L_22 : ML) => bnd (nI i + 1 : Int32) (fun v6_23 => f_X1_descend_32 db 8 15 a3 (nI n) (nI ct) k0 fu v6_23 I_21 L_22))
        refine ⟨by omega, (nI (i + 1), J2, M2), ?_, by omega, rfl, g2, K2, g3, g5, fun s t hs ht => ?_⟩
        · rw [g1, bnd_eq, nI_1]
        · by_cases e : s = i
          · rw [e]; exact g6 t ht
          · exact g4 _ (p6 s t (by omega) ht))
  rw [nI_0] at this
  exact this
theorem de126 {K0 : PS} {mk0 : Nat → Nat → Nat} {c0 si : Nat} (hn : n ≤ 10) (hn0 : 0 < n) (hD : DT I L db n a3 ct tm) (hsi : si < c0) (hB : Sub n B) (hcj : ∀ a t, B a → t < ct → B (cj a (tm t))) (h0 : ChK J M 15 n c0 mk0 K0) (hK0 : ∀ p, K0 p → B p) (hf : FrC 15 I L J M) (k0 : MI → ML → Option Mm) : ∃ J' M' K c mk, f_X1_descend_126 db 8 15 a3 (nI n) (nI ct) (nI si) k0 FU 0 J M = k0 J' M' ∧ FrC 15 I L J' M' ∧ ChK J' M' 15 n c mk K ∧ (∀ p, K0 p → K p) ∧ (∀ p, K p → B p) ∧ c0 ≤ c ∧ (∀ i, i < c0 → mk i = mk0 i) ∧ ∀ t, t < ct → K (cj (mk0 si) (tm t)) := by
  have hct := hD.1
  have hb0 : B (mk0 si) := hK0 _ (by
    obtain ⟨_, _, _, e⟩ := ChK_mk hn hn0 h0
    rw [← e]; exact Gen_in ⟨si, hsi, rfl⟩)
  have hP0 := hB.1 _ hb0
  have := loop0 (fun fu (z : Int32 × MI × ML) => f_X1_descend_126 db 8 15 a3 (nI n) (nI ct) (nI si) k0 fu z.1 z.2.1 z.2.2) (fun i z => i ≤ ct ∧ z.1 = nI i ∧ FrC 15 I L z.2.1 z.2.2 ∧ ∃ K c mk, ChK z.2.1 z.2.2 15 n c mk K ∧ (∀ p, K0 p → K p) ∧ (∀ p, K p → B p) ∧ c0 ≤ c ∧ (∀ i, i < c0 → mk i = mk0 i) ∧ ∀ t, t < i → K (cj (mk0 si) (tm t))) (fun o => ∃ J' M' K c mk, o = k0 J' M' ∧ FrC 15 I L J' M' ∧ ChK J' M' 15 n c mk K ∧ (∀ p, K0 p → K p) ∧ (∀ p, K p → B p) ∧ c0 ≤ c ∧ (∀ i, i < c0 → mk i = mk0 i) ∧ ∀ t, t < ct → K (cj (mk0 si) (tm t))) ct (by omega) (nI 0, J, M) ⟨Nat.zero_le _, rfl, hf, K0, c0, mk0, h0, fun _ h => h, hK0, Nat.le_refl _, fun _ _ => rfl, fun t ht => by omega⟩
    (fun fu i z hi hP => by
      obtain ⟨z1, J1, M1⟩ := z
      obtain ⟨_, p1, p2, K, c, mk, p3, p4, p5, p6, p7, p8⟩ := hP
      dsimp only at p1 p2 p3 ⊢
      subst p1
      rw [f_X1_descend_126, ifc (q_le (by omega) (by omega))]
      by_cases c1 : ct ≤ i
      · left
        rw [if_pos c1]
        exact ⟨J1, M1, K, c, mk, rfl, p2, p3, p4, p5, p6, p7, fun t ht => p8 t (by omega)⟩
      · right
        have tP := hD.2.1 i (by omega)
        obtain ⟨_, _, km, _⟩ := ChK_mk hn hn0 p3
        have km1 := (km si (by omega)).2
        rw [p7 si hsi] at km1
        obtain ⟨c', hc⟩ := em_B (¬ K (cj (mk0 si) (tm i)))
        obtain ⟨J2, M2, c2, mk2, g1, g2, g3, g4, g5⟩ := grow_mk hn p3 (IsP_cj hn hP0 tP) hc
        obtain ⟨e1, e2, e3⟩ := Gen_add hB p5 (hcj _ i hb0 (by omega))
        refine ⟨by omega, (nI (i + 1), J2, M2), ?_, by omega, rfl, p2.trans g3, _, c2, mk2, g2, fun p hp => e1 p (p4 p hp), e2, by omega, fun t ht => (g5 t (by omega)).trans (p7 t ht), fun t ht => ?_⟩
        · rw [if_neg c1, hD.2.2 J1 M1 p2 i (by omega), ob km1, ob (conjugate_eq hn hP0 tP), ob g1, bnd_eq, nI_1]
        · by_cases e : t = i
          · rw [e]; exact e3
          · exact e1 _ (p8 t (by omega)))
  rw [nI_0] at this
  exact this
theorem de107 {K0 : PS} (hn : n ≤ 10) (hn0 : 0 < n) (hD : DT I L db n a3 ct tm) (hB : Sub n B) (hcj : ∀ a t, B a → t < ct → B (cj a (tm t))) (h0 : ChG J M 15 n K0) (hK0 : ∀ p, K0 p → B p) (hf : FrC 15 I L J M) : ∃ J' M' K, f_X1_descend_107 db 8 15 a3 (nI n) (nI ct) FU 0 J M = some (J', M') ∧ FrC 15 I L J' M' ∧ ChG J' M' 15 n K ∧ (∀ p, K0 p → K p) ∧ (∀ p, K p → B p) ∧ Sub n K ∧ ∀ a t, K a → t < ct → K (cj a (tm t)) := by
  obtain ⟨c0, mk0, h0⟩ := h0.k
  have := loop0 (fun fu (z : Int32 × MI × ML) => f_X1_descend_107 db 8 15 a3 (nI n) (nI ct) fu z.1 z.2.1 z.2.2) (fun i z => i ≤ 15 ∧ z.1 = nI i ∧ FrC 15 I L z.2.1 z.2.2 ∧ ∃ K c mk, ChK z.2.1 z.2.2 15 n c mk K ∧ (∀ p, K0 p → K p) ∧ (∀ p, K p → B p) ∧ i ≤ c ∧ ∀ s t, s < i → t < ct → K (cj (mk s) (tm t))) (fun o => ∃ J' M' K, o = some (J', M') ∧ FrC 15 I L J' M' ∧ ChG J' M' 15 n K ∧ (∀ p, K0 p → K p) ∧ (∀ p, K p → B p) ∧ Sub n K ∧ ∀ a t, K a → t < ct → K (cj a (tm t))) 15 (by omega) (nI 0, J, M) ⟨Nat.zero_le _, rfl, hf, K0, c0, mk0, h0, fun _ h => h, hK0, Nat.zero_le _, fun s t ht => by omega⟩
    (fun fu i z hi hP => by
      obtain ⟨z1, J1, M1⟩ := z
      obtain ⟨_, p1, p2, K, c, mk, p3, p4, p5, p6, p8⟩ := hP
      dsimp only at p1 p2 p3 ⊢
      subst p1
      obtain ⟨k1, k2, k3, k4⟩ := ChK_mk hn hn0 p3
      rw [f_X1_descend_107, ob k2, ifc (q_le (by omega) (by omega))]
      by_cases c1 : c ≤ i
      · left
        rw [if_pos c1]
        have hSP : ∀ s, MKs c mk s → IsP n s := fun s ⟨x, x1, x2⟩ => by rw [x2]; exact (k3 x x1).1
        have hsub : Sub n K := by rw [← k4]; exact Gen_Sub hn hSP
        refine ⟨J1, M1, K, rfl, p2, p3.g, p4, p5, hsub, fun a t ha ht => ?_⟩
        exact norm_gen hn hSP hsub (hD.2.1 t ht) (fun s ⟨x, x1, x2⟩ => by rw [x2]; exact p8 x t (by omega) ht) a (by rw [k4]; exact ha)
      · right
        rw [if_neg c1, if_neg (by rw [show (16 : Int32) = nI 16 from rfl, q_le (by decide) (by omega)]; omega)]
        obtain ⟨J2, M2, K2, c2, mk2, g1, g2, g3, g4, g5, g6, g7, g8⟩ := de126 (si := i) hn hn0 hD (by omega) hB hcj p3 p5 p2 (fun (I_44 : MI) (L_45 : ML) => bnd (nI i + 1 : Int32) (fun v6_46 => f_X1_descend_107 db 8 15 a3 (nI n) (nI ct) fu v6_46 I_44 L_45))
        refine ⟨by omega, (nI (i + 1), J2, M2), ?_, by omega, rfl, g2, K2, c2, mk2, g3, fun p hp => g4 p (p4 p hp), g5, by omega, fun s t hs ht => ?_⟩
        · rw [g1, bnd_eq, nI_1]
        · rw [g7 s (by omega)]
          by_cases e : s = i
          · rw [e]; exact g8 t ht
          · exact g4 _ (p8 s t (by omega) ht))
  rw [nI_0] at this
  exact this
theorem descend_eq {sm : Nat → Nat → Nat} {cs : Nat} {G : PS} (hn : n ≤ 10) (hn0 : 0 < n) (hG : ChG I L 8 n G) (hcs : cs ≤ 15) (h2 : I db 2 = nI cs) (hs : ∀ i, i < cs → IsP n (sm i) ∧ L (db + 2) i = tn n (sm i)) (hdb : 22 ≤ db) (hle : ∀ p, Gen n (MKs cs sm) p → G p) : ∃ I' L', f_X1_descend db 8 15 a3 I L = some (I', L') ∧ FrC 15 I L I' L' ∧ ChG I' L' 15 n (CmK n (Gen n (MKs cs sm)) (if a3 = true then G else Gen n (MKs cs sm))) := by
  have h80 : I 8 0 = nI n := by
    obtain ⟨rb, th, t1, _⟩ := ChG_tab hn hG
    exact t1.1
  have hSP : ∀ s, MKs cs sm s → IsP n s := fun s ⟨x, x1, x2⟩ => by rw [x2]; exact (hs x x1).1
  obtain ⟨ct, tm, T1, T2, T3⟩ : ∃ ct tm, DT I L db n a3 ct tm ∧ Gen n (MKs ct tm) = (if a3 = true then G else Gen n (MKs cs sm)) ∧ ∀ j : Int32 → Option Mm, bnd j (fun j' => if (b2i a3) = 0 then j' (I db 2) else Option.bind (f_X0_countMakers 8 I L) (fun q => j' q)) = j (nI ct) := by
    cases a3
    · refine ⟨cs, sm, ⟨hcs, fun i hi => (hs i hi).1, fun J M hf i hi j => ?_⟩, rfl, fun j => ?_⟩
      · rw [bnd_eq, if_pos b2i_f, q_chk (by omega) (by decide), q_ix (by omega), hf.2 (db + 2) (by omega) (by omega) (by omega) (by omega), (hs i hi).2]
      · rw [bnd_eq, if_pos b2i_f, h2]
    · obtain ⟨c, mk, c1, c2, c3, c4⟩ := ChG_mk hn hn0 hG
      refine ⟨c, mk, ⟨c1, fun i hi => (c3 i hi).1, fun J M hf i hi j => ?_⟩, c4, fun j => ?_⟩
      · have e := (c3 i hi).2
        rw [bnd_eq, if_neg b2i_t]
        have : f_X0_maker 8 (nI i) J M = f_X0_maker 8 (nI i) I L := by
          unfold f_X0_maker
          rw [hf.2 8 (by decide) (by decide) (by decide) (by decide), hf.2 (8 + 4) (by decide) (by decide) (by decide) (by decide)]
        rw [this, ob e]
      · rw [bnd_eq, if_neg b2i_t, ob c2]
  have hTP : ∀ t, MKs ct tm t → IsP n t := fun s ⟨x, x1, x2⟩ => by rw [x2]; exact T1.2.1 x x1
  have hHs := Gen_Sub hn hSP
  have hTs := Gen_Sub hn hTP
  have hB := CmK_Sub hn hHs hTs
  have hST : ∀ s, MKs cs sm s → Gen n (MKs ct tm) s := fun s hs => by
    rw [T2]
    cases a3
    · exact Gen_in hs
    · exact hle s (Gen_in hs)
  unfold f_X1_descend
  rw [h80, bnd_eq, T3]
  obtain ⟨Ia, La, x1, x2, x3⟩ := start_eq (cb := 15) (I := I) (L := L) hn
  rw [ob x1]
  obtain ⟨Ib, Lb, Kb, y1, y2, y3, y4, y5⟩ := de32 (a3 := a3) (B := CmK n (Gen n (MKs cs sm)) (Gen n (MKs ct tm))) hn T1 hcs h2 hs hdb hB (fun i t hi ht => CmK_cm (Gen_in ⟨i, hi, rfl⟩) (Gen_in ⟨t, ht, rfl⟩)) x2 (fun p hp => by rw [hp]; exact hB.2.1) x3 (fun (I_24 : MI) (L_25 : ML) => f_X1_descend_107 db 8 15 a3 (nI n) (nI ct) FU 0 I_24 L_25)
  obtain ⟨Ic, Lc, Kc, z1, z2, z3, z4, z5, z6, z7⟩ := de107 (a3 := a3) (B := CmK n (Gen n (MKs cs sm)) (Gen n (MKs ct tm))) hn hn0 T1 hB (fun a t ha ht => CmK_cj ha (Gen_in ⟨t, ht, rfl⟩)) y3 y4 y2
  refine ⟨Ic, Lc, ?_, z2, ?_⟩
  · rw [y1, z1]
  · rw [← T2, ← CmK_eq (M := Kc) hn hSP hTP z6 hST (fun a t ha ⟨x, x1, x2⟩ => by rw [x2]; exact z7 a x ha x1) (fun s t ⟨x, x1, x2⟩ ⟨y, w1, w2⟩ => by rw [x2, w2]; exact z4 _ (y5 x y x1 w1)) z5]
    exact z3
end DE
