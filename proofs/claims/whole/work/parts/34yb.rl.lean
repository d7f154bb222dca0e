def RLr (N : Nat) : RLT := [((N, 4), N + 1), ((N, 5), N + 2), ((N, 6), N + 3), ((N, 7), N + 4), ((N, 8), N + 5), ((N, 9), N + 6), ((N, 10), N + 7)]
def Rbr (rm N : Nat) : MR := fun p k => if p < N then lR rm p k else if p = N + 7 then (if k < 12 then some (N + 8 + k) else none) else none
def okN (rm N : Nat) : Prop := (N = 69 ∧ rm = 0) ∨ (N = 89 ∧ rm ≠ 0)
theorem R0_lt {p k r : Nat} (h : R0 p k = some r) : r < 89 ∧ (p < 69 → r < 69) := by
  unfold R0 at h
  cases hf : RL0.find? (fun e => e.1 == (p, k)) with
  | some e =>
    rw [hf] at h
    have h2 := (RL0_lt e (List.mem_of_find?_eq_some hf)).2
    cases h
    exact ⟨by omega, fun _ => h2⟩
  | none =>
    rw [hf] at h
    simp only at h
    split at h
    · split at h
      · cases h; omega
      · cases h
    · split at h
      · split at h
        · cases h; omega
        · cases h
      · cases h
theorem lR_ltN {rm N p k r : Nat} (hN : okN rm N) (hp : p < N) (h : lR rm p k = some r) : r < N := by
  unfold lR at h
  rcases hN with ⟨h1, h2⟩ | ⟨h1, h2⟩
  · subst h1; subst h2
    split at h
    · cases h
    · exact (R0_lt h).2 hp
  · subst h1
    split at h
    · first | (rw [if_neg h2] at h; cases h; omega) | (cases h; omega)
    · exact (R0_lt h).1
theorem lK_lenN {rm N : Nat} (hN : okN rm N) : (lK rm).length = N := by
  rcases hN with ⟨h1, h2⟩ | ⟨h1, h2⟩
  · subst h1; subst h2; rfl
  · subst h1; unfold lK; rw [if_neg h2]; rfl
theorem KBg {KP : KT} {r N i : Nat} {k : Nat × Nat} (h : KP.length = N) (hk : (KR r)[i]? = some k) : (KP ++ KR r)[N + i]? = some k := by
  rw [List.getElem?_append_right (by omega), show N + i - KP.length = i by omega]; exact hk
theorem RLr_mem {N m : Nat} {e : (Nat × Nat) × Nat} (h : e ∈ (RLr N).take m) : e.1.1 = N ∧ N < e.2 ∧ e.2 ≤ N + m ∧ e.2 ≤ N + 7 := by
  obtain ⟨i, hi⟩ := List.getElem?_of_mem h
  rw [List.getElem?_take] at hi
  split at hi
  · rename_i hlt
    match i, hi with
    | 0, hi => cases hi; simp; omega
    | 1, hi => cases hi; simp; omega
    | 2, hi => cases hi; simp; omega
    | 3, hi => cases hi; simp; omega
    | 4, hi => cases hi; simp; omega
    | 5, hi => cases hi; simp; omega
    | 6, hi => cases hi; simp; omega
    | i + 7, hi => simp [RLr] at hi
  · cases hi
theorem rpN_ne {rm N m n : Nat} (hN : okN rm N) (h1 : N + m < n) (h2 : n ≤ N + 7) : ∀ p j, p < n → Rp (RLr N) (Rbr rm N) m p j ≠ some n := by
  intro p j hp he
  unfold Rp at he
  cases hf : ((RLr N).take m).find? (fun e => e.1 == (p, j)) with
  | some e =>
    rw [hf] at he
    have h3 := RLr_mem (List.mem_of_find?_eq_some hf)
    cases he
    omega
  | none =>
    rw [hf] at he
    simp only [Rbr] at he
    split at he
    · rename_i hlt
      have := lR_ltN hN hlt he
      omega
    · split at he
      · omega
      · cases he
section RP
variable {G : GT Mm} {cc : ByteArray} {own : String} {fr lo pc q : Nat} {lv : List (Nat × Value)} {st : List Value} {I : MI} {L : ML} {X : Option Mm} {ad0 : Nat → Nat} {KB : KT} {RL : RLT} {Rb : MR} {n0 n1 m1 mc ms n m c s nL0 : Nat}
theorem w_putEF {p ci k0 k N idx : Nat} {C : String} {T : u_T} {ty0 : Nat → FieldType} {ty : FieldType} (hc : Cx G cc own none fr lo) (hX : SXX G ad0 KB RL Rb n0 n1 m1 mc ms n m c s) (hd : decode cc pc = .ok (.putfield idx, 3)) (hk : (gK G)[p]? = some (ci, k0)) (hv : vwCl[ci]? = some (C, T, N)) (h8 : ci < 8) (hin : ∀ w ∈ u_ws C T N, w ∈ wsA) (hty : ∀ k, k < N → parseFieldDescriptor (T k).2.2.1 = some (ty0 k)) (hnm : ∀ a, a < N → ∀ b, b < N → a ≠ b → (T a).2.1 ≠ (T b).2.1) (hlt : k < N) (hf : k < fnn ci) (ht : fty ci k = 0) (hw : Cond.fieldLink own idx C (T k).2.1 (T k).2.2.1 ∈ wsA) (hC : (T k).1 = C) (hfin : (T k).2.2.2 = true) (hdecl : (T k).1 = own) (hdt : parseFieldDescriptor (T k).2.2.1 = some ty) {v : Int32} (hn : narrow ty (.int v) = .int v) (hfit : fits ty (.int v) = true) (e : q = pc + 3) (kk : WW G q lv st (up2 I p k v) L X) : WW G pc lv (.int v :: .ref p :: st) I L X := by
  subst e
  intro b hb H locs ls hP hD hS hl
  have hg : (gwd G I L)[p]? = some (gad G p, .inr (ci, fvs (gad G) (gR G) I L p ci)) := by rw [wd_get hk]; simp [ce, h8]
  have he : (gwd G I L).set p (gad G p, .inr (ci, (fvs (gad G) (gR G) I L p ci).set k (.int v))) = gwd G (up2 I p k v) L := by
    rw [fvs_setI ht]
    refine Eq.trans ?_ (wd_set (tc := gtc G) (ad := gad G) hk (R := gR G) (R' := gR G) (I := I) (I' := up2 I p k v) (L := L) (L' := L) (fun _ _ => rfl) (fun _ h => (up2_ne h).symm) (fun _ _ => rfl))
    simp [ce, h8]
  refine va_putF hc.1 hc.2.1 hc.2.2.2.2.1 hin ty0 hty hnm hc.2.2.2.1 hc.2.2.2.2.2.1 hP hD hS p hg hv k hlt (hc.2.2.2.2.1 _ hw) (by rw [hC]; exact fun _ h9 => h9) hfin hX.2.2.2.2.2.2.2.2 hdecl hdt hn hfit (by rw [fvs_len]; exact hf) hd (fun H1 locs1 hP1 hD1 hS1 => ?_)
  have hP2 : va_P (gD G) vwCl (gwd G (up2 I p k v) L) H1 := by rw [← he]; exact hP1
  have hD2 : va_D (gA G) (gwd G (up2 I p k v) L) := by rw [← he]; exact hD1
  exact kk b hb H1 locs1 ls hP2 hD2 hS1 hl
end RP
theorem oiR_inst : Cond.instanceMethod Lib.objectInit ∈ wsA := tb1 (List.mem_of_getElem? (i := 23) rfl) rfl
theorem oiR_code : Cond.code Lib.objectInit ⟨#[0xb1]⟩ 1 none ∈ wsA := tb1 (List.mem_of_getElem? (i := 24) rfl) rfl
theorem oiR_ml : Cond.methodLink RX4 3 Lib.objectInit ∈ wsA := tb3 (List.mem_of_getElem? (i := 235) rfl) rfl
