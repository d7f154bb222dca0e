theorem tblIn {w : Cond} (h : w ∈ tables_1_1 ++ (tables_1_2 ++ (tables_1_3 ++ (tables_1_4 ++ (tables_1_5 ++ (tables_1_6 ++ (tables_1_7 ++ (tables_1_8 ++ tables_1_9)))))))) : w ∈ lw_tbl := List.mem_append_right _ h
def tmS (i : Nat) : Term := if i = 0 then .string RX5 111 else if i = 1 then .string RX5 116 else .string RX5 118
theorem ne_of {args : Array Value} {s : State} (i j : Nat) (hi : i < 3) (hj : j < 3) (hij : i ≠ j) (h01 : (Cond.not (Cond.eq (tmS 0) (tmS 1))).before args s = true) (h02 : (Cond.not (Cond.eq (tmS 0) (tmS 2))).before args s = true) (h12 : (Cond.not (Cond.eq (tmS 1) (tmS 2))).before args s = true) : (Cond.not (Cond.eq (tmS i) (tmS j))).before args s = true ∨ (Cond.not (Cond.eq (tmS j) (tmS i))).before args s = true := by
  match i, j, hi, hj with
  | 0, 0, _, _ => exact absurd rfl hij
  | 0, 1, _, _ => exact Or.inl h01
  | 0, 2, _, _ => exact Or.inl h02
  | 1, 0, _, _ => exact Or.inr h01
  | 1, 1, _, _ => exact absurd rfl hij
  | 1, 2, _, _ => exact Or.inl h12
  | 2, 0, _, _ => exact Or.inr h02
  | 2, 1, _, _ => exact Or.inr h12
  | 2, 2, _, _ => exact absurd rfl hij
  | i + 3, _, hi, _ => exact absurd hi (by omega)
  | _, j + 3, _, hj => exact absurd hj (by omega)
theorem arr_of {args : Array Value} {s : State} {ty : FieldType} (hno : ∀ C, ty ≠ .object C) (h : (Cond.arrayClass ty).before args s = true) : ∃ cA : ClassId, ArrOfT s cA ty ∧ va_RA s cA ty := by
  obtain ⟨c, k, comp, h1, h2, h3⟩ := Cond.arrayClass_spec h
  refine ⟨c, fun n z => ⟨fun k => by simp [arrV], k, h2, comp, h3⟩, ?_⟩
  cases ty <;> first | exact h1 | exact absurd rfl (hno _)
theorem arr2_of {args : Array Value} {s : State} (h : (Cond.arrayOver (.array .int)).before args s = true) : ∃ cA : ClassId, ArrOfT s cA (.array .int) ∧ va_RA s cA (.array .int) := by
  unfold Cond.before Cond.holds at h
  simp only [Cond.value, beq_iff_eq] at h
  cases hc : s.vm.findClass (FieldType.array .int).toString with
  | none => simp [hc] at h
  | some comp =>
    simp only [hc, Option.bind_some, Option.bind_eq_some_iff, Option.map_eq_some_iff] at h
    obtain ⟨c, hi, k, hk, hb⟩ := h
    cases hkind : k.kind with
    | array component ty =>
      rw [hkind] at hb
      simp at hb
      exact ⟨c, fun n z => ⟨fun k => by simp [arrV], k, hk, component, by rw [hkind, hb.1]⟩, hb.2⟩
    | _ => rw [hkind] at hb; simp at hb
set_option maxRecDepth 100000 in
/-- what holds at the law's entry, in the words of the pure face -/
theorem law_ex {p : Program} {s : State} {m : MethodId} {meth : Method} {c : Code} {b L : Nat} {xs : Nat → Int32} (C0 : lw_At p s m meth c b L xs) : ∃ (D : va_G) (tc : Nat → ClassId) (ad : Nat → Nat), va_K D vwCl (tyl tc) s ∧ Ex ad (fun q : Nat => s.heap.size ≤ q) s ∧ ad 4000000 = b := by
  obtain ⟨hx, hb, hr, hml, hown, hts, hX, hbl, hlocks, hgv⟩ := C0
  have hs := flat_of_before _ hgv
  have hA : ∀ a : Nat, a < s.heap.size → ¬ (fun q : Nat => s.heap.size ≤ q) a := fun a h => Nat.not_le.mpr h
  obtain ⟨c0, iS0, hKn0⟩ := u_known (C := RX0) (T := TX0) (N := 8) (n := 8) hts (fun w h => wsA_tbl w (inA_X0 w h)) (hts (.instantiable RX0 8) (tblIn (List.mem_append_left _ (List.mem_of_getElem? (i := 96) rfl))))
  obtain ⟨c1, iS1, hKn1⟩ := u_known (C := RX1) (T := TX1) (N := 5) (n := 5) hts (fun w h => wsA_tbl w (inA_X1 w h)) (hts (.instantiable RX1 5) (tblIn (List.mem_append_left _ (List.mem_of_getElem? (i := 128) rfl))))
  obtain ⟨c2, iS2, hKn2⟩ := u_known (C := RX2) (T := TX2) (N := 13) (n := 13) hts (fun w h => wsA_tbl w (inA_X2 w h)) (hts (.instantiable RX2 13) (tblIn (List.mem_append_left _ (List.mem_of_getElem? (i := 90) rfl))))
  obtain ⟨c3, iS3, hKn3⟩ := u_known (C := RX3) (T := TX3) (N := 7) (n := 7) hts (fun w h => wsA_tbl w (inA_X3 w h)) (hts (.instantiable RX3 7) (tblIn (List.mem_append_left _ (List.mem_of_getElem? (i := 194) rfl))))
  obtain ⟨c4, iS4, hKn4⟩ := u_known (C := RX4) (T := TX4) (N := 16) (n := 16) hts (fun w h => wsA_tbl w (inA_X4 w h)) (hts (.instantiable RX4 16) (tblIn (List.mem_append_right _ (List.mem_append_right _ (List.mem_append_left _ (List.mem_of_getElem? (i := 231) rfl))))))
  obtain ⟨c5, iS5, hKn5⟩ := u_known (C := RX5) (T := TX5) (N := 16) (n := 16) hts (fun w h => wsA_tbl w (inA_X5 w h)) (hts (.instantiable RX5 16) (tblIn (List.mem_append_left _ (List.mem_of_getElem? (i := 26) rfl))))
  obtain ⟨c6, iS6, hKn6⟩ := u_known (C := RX7) (T := TX7) (N := 7) (n := 7) hts (fun w h => wsA_tbl w (inA_X7 w h)) (hts (.instantiable RX7 7) (tblIn (List.mem_append_left _ (List.mem_of_getElem? (i := 18) rfl))))
  obtain ⟨c7, iS7, hKn7⟩ := u_known (C := RX8) (T := TX8) (N := 45) (n := 45) hts (fun w h => wsA_tbl w (inA_X8 w h)) (hts (.instantiable RX8 45) (tblIn (List.mem_append_right _ (List.mem_append_right _ (List.mem_append_right _ (List.mem_append_right _ (List.mem_append_right _ (List.mem_append_left _ (List.mem_of_getElem? (i := 43) rfl)))))))))
  obtain ⟨tI, hI1, hI2⟩ := arr_of (ty := .int) (fun _ h => by cases h) (hts (.arrayClass .int) (tblIn (List.mem_append_left _ (List.mem_of_getElem? (i := 88) rfl))))
  obtain ⟨tJ, hJ1, hJ2⟩ := arr_of (ty := .long) (fun _ h => by cases h) (hts (.arrayClass .long) (tblIn (List.mem_append_left _ (List.mem_of_getElem? (i := 87) rfl))))
  obtain ⟨tB, hB1, hB2⟩ := arr_of (ty := .byte) (fun _ h => by cases h) (hts (.arrayClass .byte) (tblIn (List.mem_append_left _ (List.mem_of_getElem? (i := 86) rfl))))
  obtain ⟨tZ, hZ1, hZ2⟩ := arr_of (ty := .boolean) (fun _ h => by cases h) (hts (.arrayClass .boolean) (tblIn (List.mem_append_right _ (List.mem_append_right _ (List.mem_append_right _ (List.mem_append_right _ (List.mem_append_right _ (List.mem_append_left _ (List.mem_of_getElem? (i := 191) rfl)))))))))
  have hao := hts (.arrayOver (.array .int)) (tblIn (List.mem_append_right _ (List.mem_append_right _ (List.mem_append_right _ (List.mem_append_left _ (List.mem_of_getElem? (i := 0) rfl))))))
  obtain ⟨tR, hR1, hR2⟩ := arr2_of hao
  have key : ∃ adK adV : Nat → Nat, vk_S 3 sLen sByt adK adV (fun q : Nat => s.heap.size ≤ q) s s.heap ∧ ∀ i : Nat, i < 3 → (tmS i).eval #[Value.ref b] s none [] s = some (.ref (adK i)) := by
    refine vk_Sof (args := #[Value.ref b]) (s := s) (N := 3) (tm := tmS) (len := sLen) (byt := sByt) (A := fun q : Nat => s.heap.size ≤ q) (by decide) ?_ ?_ ?_ ?_ ?_ ?_ hA
    · intro i hi
      match i, hi with
      | 0, _ => exact hs _ (by decide +kernel)
      | 1, _ => exact hs _ (by decide +kernel)
      | 2, _ => exact hs _ (by decide +kernel)
      | i + 3, hi => exact absurd hi (by omega)
    · intro i hi
      match i, hi with
      | 0, _ => exact hs _ (by decide +kernel)
      | 1, _ => exact hs _ (by decide +kernel)
      | 2, _ => exact hs _ (by decide +kernel)
      | i + 3, hi => exact absurd hi (by omega)
    · intro i hi
      match i, hi with
      | 0, _ => exact hs _ (by decide +kernel)
      | 1, _ => exact hs _ (by decide +kernel)
      | 2, _ => exact hs _ (by decide +kernel)
      | i + 3, hi => exact absurd hi (by omega)
    · intro i hi
      match i, hi with
      | 0, _ => exact hs _ (by decide +kernel)
      | 1, _ => exact hs _ (by decide +kernel)
      | 2, _ => exact hs _ (by decide +kernel)
      | i + 3, hi => exact absurd hi (by omega)
    · intro i hi j hj
      match i, hi with
      | 0, _ =>
        match j, hj with
        | 0, _ => exact hs _ (by decide +kernel)
        | 1, _ => exact hs _ (by decide +kernel)
        | 2, _ => exact hs _ (by decide +kernel)
        | 3, _ => exact hs _ (by decide +kernel)
        | 4, _ => exact hs _ (by decide +kernel)
        | 5, _ => exact hs _ (by decide +kernel)
        | j + 6, hj => exact absurd hj (by show ¬ j + 6 < 6; omega)
      | 1, _ =>
        match j, hj with
        | 0, _ => exact hs _ (by decide +kernel)
        | 1, _ => exact hs _ (by decide +kernel)
        | 2, _ => exact hs _ (by decide +kernel)
        | 3, _ => exact hs _ (by decide +kernel)
        | j + 4, hj => exact absurd hj (by show ¬ j + 4 < 4; omega)
      | 2, _ =>
        match j, hj with
        | 0, _ => exact hs _ (by decide +kernel)
        | 1, _ => exact hs _ (by decide +kernel)
        | 2, _ => exact hs _ (by decide +kernel)
        | 3, _ => exact hs _ (by decide +kernel)
        | j + 4, hj => exact absurd hj (by show ¬ j + 4 < 4; omega)
      | i + 3, hi => exact absurd hi (by omega)
    · intro i j hi hj hij
      exact ne_of i j hi hj hij (hs _ (by decide +kernel)) (hs _ (by decide +kernel)) (hs _ (by decide +kernel))
  obtain ⟨adK, adV, hSt, hSe⟩ := key
  have hCS : va_Z "java/lang/String" "COMPACT_STRINGS" "Z" (.int 1) (fun q : Nat => s.heap.size ≤ q) s s.heap := va_Zof (hts (.laysStatic "java/lang/String" "COMPACT_STRINGS" "Z") (tblIn (List.mem_append_right _ (List.mem_append_left _ (List.mem_of_getElem? (i := 81) rfl))))) (hts (.initialized "java/lang/String") (tblIn (List.mem_append_left _ (List.mem_of_getElem? (i := 9) rfl)))) (va_eqi (hs _ (by decide +kernel))) hA
  have hSF : va_Zq "jdk/internal/util/Preconditions" "SIOOBE_FORMATTER" "Ljava/util/function/BiFunction;" (fun q : Nat => s.heap.size ≤ q) s s.heap := va_Zqof (hts (.laysStatic "jdk/internal/util/Preconditions" "SIOOBE_FORMATTER" "Ljava/util/function/BiFunction;") (tblIn (List.mem_append_right _ (List.mem_append_left _ (List.mem_of_getElem? (i := 97) rfl))))) (hts (.initialized "jdk/internal/util/Preconditions") (tblIn (List.mem_append_left _ (List.mem_of_getElem? (i := 11) rfl)))) (hs _ (by decide +kernel)) hA
  obtain ⟨fm, hfm⟩ : ∃ fm : Nat, va_Z "jdk/internal/util/Preconditions" "SIOOBE_FORMATTER" "Ljava/util/function/BiFunction;" .null (fun q : Nat => s.heap.size ≤ q) s s.heap ∨ va_Z "jdk/internal/util/Preconditions" "SIOOBE_FORMATTER" "Ljava/util/function/BiFunction;" (.ref fm) (fun q : Nat => s.heap.size ≤ q) s s.heap := by
    rcases hSF with h | ⟨t, h⟩
    · exact ⟨0, Or.inl h⟩
    · exact ⟨t, Or.inr h⟩
  obtain ⟨ad, had⟩ : ∃ ad : Nat → Nat, ad = fun q => if q = 4000000 then b else if q = 3000000 then fm else if 2000000 ≤ q then adV (q - 2000000) else adK (q - 1000000) := ⟨_, rfl⟩
  have eb : ad 4000000 = b := by rw [had]; rfl
  have ef : ad 3000000 = fm := by rw [had]; rfl
  have eK : ∀ i, i < 3 → sK ad i = adK i := by
    intro i hi
    have h1 : 1000000 + i ≠ 4000000 := by omega
    have h2 : 1000000 + i ≠ 3000000 := by omega
    have h3 : ¬ 2000000 ≤ 1000000 + i := by omega
    have h4 : 1000000 + i - 1000000 = i := by omega
    show ad (1000000 + i) = _
    rw [had]; simp only [h1, h2, h3, h4, if_false]
  have eV : ∀ i, i < 3 → sV ad i = adV i := by
    intro i hi
    have h1 : 2000000 + i ≠ 4000000 := by omega
    have h2 : 2000000 + i ≠ 3000000 := by omega
    have h3 : 2000000 ≤ 2000000 + i := by omega
    have h4 : 2000000 + i - 2000000 = i := by omega
    show ad (2000000 + i) = _
    rw [had]; simp only [h1, h2, h3, h4, if_false, if_true]
  have hSt' : vk_S 3 sLen sByt (sK ad) (sV ad) (fun q : Nat => s.heap.size ≤ q) s s.heap := by
    refine ⟨fun i hi => ?_, fun i j hi hj h => ?_⟩
    · rw [eK i hi, eV i hi]; exact hSt.1 i hi
    · rw [eK i hi, eK j hj] at h; exact hSt.2 i j hi hj h
  obtain ⟨dC, dI, hKc⟩ : ∃ (dC : Nat → ClassId) (dI : Nat → Nat → Nat), ∀ (k : Nat) (q : vw_C), vwCl[k]? = some q → u_Kn s q.1 q.2.1 q.2.2 (dC k) (dI k) := by
    refine ⟨fun k => if k = 0 then c0 else if k = 1 then c1 else if k = 2 then c2 else if k = 3 then c3 else if k = 4 then c4 else if k = 5 then c5 else if k = 6 then c6 else c7, fun k => if k = 0 then iS0 else if k = 1 then iS1 else if k = 2 then iS2 else if k = 3 then iS3 else if k = 4 then iS4 else if k = 5 then iS5 else if k = 6 then iS6 else iS7, ?_⟩
    intro k q hq
    match k, hq with
    | 0, hq => cases hq; exact hKn0
    | 1, hq => cases hq; exact hKn1
    | 2, hq => cases hq; exact hKn2
    | 3, hq => cases hq; exact hKn3
    | 4, hq => cases hq; exact hKn4
    | 5, hq => cases hq; exact hKn5
    | 6, hq => cases hq; exact hKn6
    | 7, hq => cases hq; exact hKn7
    | k + 8, hq => simp [vwCl] at hq
  refine ⟨(dC, dI), fun k => if k = 10 then tI else if k = 11 then tJ else if k = 12 then tB else if k = 13 then tZ else tR, ad, ⟨hKc, ?_⟩, ?_, eb⟩
  · intro k q hq
    match k, hq with
    | 0, hq => cases hq; exact ⟨hI1, hI2⟩
    | 1, hq => cases hq; exact ⟨hJ1, hJ2⟩
    | 2, hq => cases hq; exact ⟨hB1, hB2⟩
    | 3, hq => cases hq; exact ⟨hZ1, hZ2⟩
    | 4, hq => cases hq; exact ⟨hR1, hR2⟩
    | k + 5, hq => simp [tyl] at hq
  · exact ⟨⟨va_Nw.of rfl (hts _ (tblIn (List.mem_append_left _ (List.mem_of_getElem? (i := 102) rfl)))), va_Nw.of rfl (hts _ (tblIn (List.mem_append_left _ (List.mem_of_getElem? (i := 27) rfl)))), va_Nw.of rfl (hts _ (tblIn (List.mem_append_left _ (List.mem_of_getElem? (i := 91) rfl)))), va_Nw.of rfl (hts _ (tblIn (List.mem_append_left _ (List.mem_of_getElem? (i := 195) rfl)))), va_Nw.of rfl (hts _ (tblIn (List.mem_append_left _ (List.mem_of_getElem? (i := 97) rfl)))), va_Nw.of rfl (hts _ (tblIn (List.mem_append_left _ (List.mem_of_getElem? (i := 129) rfl))))⟩, ⟨vk_R.of (hts _ (tblIn (List.mem_append_right _ (List.mem_append_left _ (List.mem_of_getElem? (i := 67) rfl))))) (by rw [eK 0 (by decide)]; exact hSe 0 (by decide)), vk_R.of (hts _ (tblIn (List.mem_append_right _ (List.mem_append_left _ (List.mem_of_getElem? (i := 124) rfl))))) (by rw [eK 1 (by decide)]; exact hSe 1 (by decide)), vk_R.of (hts _ (tblIn (List.mem_append_right _ (List.mem_append_left _ (List.mem_of_getElem? (i := 125) rfl))))) (by rw [eK 2 (by decide)]; exact hSe 2 (by decide))⟩, hSt', hCS, by rw [ef]; exact hfm, ⟨s, Vm.Alike.refl _, hao⟩⟩
