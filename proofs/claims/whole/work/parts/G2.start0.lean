abbrev tmS (i : Nat) : Term := Term.string "VoiceFall$Reader" ([140, 142, 144, 146, 148, 150, 152].getD i 0)
abbrev fgv : Cond := Jvm.Cond.and given_1 narrow_1
theorem start_el {s : State} {b : Nat} (hf : ∀ w ∈ flatC fgv, w.before #[Value.ref b] s = true) : ∀ i : Nat, i < 7 → ∀ j : Nat, j < lenS.getD i 0 → (Cond.eq (.elem (.field (tmS i) "java/lang/String" "value" "[B") (.int (Int32.ofNat j))) (.int ((bytS.getD i []).getD j 0))).before #[Value.ref b] s = true := by
  intro i hi j hj
  rcases (show i = 0 ∨ i = 1 ∨ i = 2 ∨ i = 3 ∨ i = 4 ∨ i = 5 ∨ i = 6 by omega) with h | h | h | h | h | h | h <;> subst h
  · have hj : j < 5 := hj
    rcases (show j = 0 ∨ j = 1 ∨ j = 2 ∨ j = 3 ∨ j = 4 by omega) with h | h | h | h | h <;> subst h <;> exact hf _ (by decide +kernel)
  · have hj : j < 5 := hj
    rcases (show j = 0 ∨ j = 1 ∨ j = 2 ∨ j = 3 ∨ j = 4 by omega) with h | h | h | h | h <;> subst h <;> exact hf _ (by decide +kernel)
  · have hj : j < 6 := hj
    rcases (show j = 0 ∨ j = 1 ∨ j = 2 ∨ j = 3 ∨ j = 4 ∨ j = 5 by omega) with h | h | h | h | h | h <;> subst h <;> exact hf _ (by decide +kernel)
  · have hj : j < 8 := hj
    rcases (show j = 0 ∨ j = 1 ∨ j = 2 ∨ j = 3 ∨ j = 4 ∨ j = 5 ∨ j = 6 ∨ j = 7 by omega) with h | h | h | h | h | h | h | h <;> subst h <;> exact hf _ (by decide +kernel)
  · have hj : j < 4 := hj
    rcases (show j = 0 ∨ j = 1 ∨ j = 2 ∨ j = 3 by omega) with h | h | h | h <;> subst h <;> exact hf _ (by decide +kernel)
  · have hj : j < 4 := hj
    rcases (show j = 0 ∨ j = 1 ∨ j = 2 ∨ j = 3 by omega) with h | h | h | h <;> subst h <;> exact hf _ (by decide +kernel)
  · have hj : j < 6 := hj
    rcases (show j = 0 ∨ j = 1 ∨ j = 2 ∨ j = 3 ∨ j = 4 ∨ j = 5 by omega) with h | h | h | h | h | h <;> subst h <;> exact hf _ (by decide +kernel)
theorem start_ne {s : State} {b : Nat} (hf : ∀ w ∈ flatC fgv, w.before #[Value.ref b] s = true) : ∀ i j : Nat, i < 7 → j < 7 → i ≠ j → (Cond.not (Cond.eq (tmS i) (tmS j))).before #[Value.ref b] s = true ∨ (Cond.not (Cond.eq (tmS j) (tmS i))).before #[Value.ref b] s = true := by
  intro i j hi hj hne
  rcases (show i = 0 ∨ i = 1 ∨ i = 2 ∨ i = 3 ∨ i = 4 ∨ i = 5 ∨ i = 6 by omega) with h | h | h | h | h | h | h <;> subst h <;> rcases (show j = 0 ∨ j = 1 ∨ j = 2 ∨ j = 3 ∨ j = 4 ∨ j = 5 ∨ j = 6 by omega) with h | h | h | h | h | h | h <;> subst h <;> first | exact absurd rfl hne | exact Or.inl (hf _ (by decide +kernel)) | exact Or.inr (hf _ (by decide +kernel))
set_option maxHeartbeats 4000000 in
set_option maxRecDepth 100000 in
theorem start_SE {s : State} {b : Nat} (hts : ∀ w ∈ lw_tbl, w.before #[Value.ref b] s = true) (hgv : fgv.before #[Value.ref b] s = true) : ∃ sg : SG, SE sg (fun q : Nat => s.heap.size ≤ q) s s.heap := by
  have hf : ∀ w ∈ flatC fgv, w.before #[Value.ref b] s = true := flat_of_before _ hgv
  have hA : ∀ a : Nat, a < s.heap.size → ¬ (fun q : Nat => s.heap.size ≤ q) a := fun a h => Nat.not_le.mpr h
  obtain ⟨adK, adV, hS, hE⟩ := vk_Sof (args := #[Value.ref b]) (s := s) (N := 7) (tm := tmS) (len := lenS) (byt := bytS) (A := fun q : Nat => s.heap.size ≤ q) (by decide) (fun i hi => by rcases (show i = 0 ∨ i = 1 ∨ i = 2 ∨ i = 3 ∨ i = 4 ∨ i = 5 ∨ i = 6 by omega) with h | h | h | h | h | h | h <;> subst h <;> exact hf _ (by decide +kernel)) (fun i hi => by rcases (show i = 0 ∨ i = 1 ∨ i = 2 ∨ i = 3 ∨ i = 4 ∨ i = 5 ∨ i = 6 by omega) with h | h | h | h | h | h | h <;> subst h <;> exact hf _ (by decide +kernel)) (fun i hi => by rcases (show i = 0 ∨ i = 1 ∨ i = 2 ∨ i = 3 ∨ i = 4 ∨ i = 5 ∨ i = 6 by omega) with h | h | h | h | h | h | h <;> subst h <;> exact hf _ (by decide +kernel)) (fun i hi => by rcases (show i = 0 ∨ i = 1 ∨ i = 2 ∨ i = 3 ∨ i = 4 ∨ i = 5 ∨ i = 6 by omega) with h | h | h | h | h | h | h <;> subst h <;> exact hf _ (by decide +kernel)) (start_el hf) (start_ne hf) hA
  have z1 : va_Z "java/lang/String" "COMPACT_STRINGS" "Z" (.int 1) (fun q : Nat => s.heap.size ≤ q) s s.heap := va_Zof (hts (.laysStatic "java/lang/String" "COMPACT_STRINGS" "Z") (by decide +kernel)) (hts (.initialized "java/lang/String") (by decide +kernel)) (va_eqt (hf (.eq (.static "java/lang/String" "COMPACT_STRINGS" "Z") (.int 1)) (by decide +kernel))) hA
  obtain ⟨v, hv, hvr⟩ := Cond.isRef_spec (hf (.isRef (.static "jdk/internal/util/Preconditions" "SIOOBE_FORMATTER" "Ljava/util/function/BiFunction;")) (by decide +kernel))
  obtain ⟨t, ht⟩ : ∃ t : Option Nat, v = va_rf t := by cases v <;> first | exact ⟨none, rfl⟩ | exact ⟨some _, rfl⟩ | (exact nomatch hvr) | (simp [Value.isRef] at hvr)
  subst ht
  have z2 : va_Z "jdk/internal/util/Preconditions" "SIOOBE_FORMATTER" "Ljava/util/function/BiFunction;" (va_rf t) (fun q : Nat => s.heap.size ≤ q) s s.heap := va_Zof (hts (.laysStatic "jdk/internal/util/Preconditions" "SIOOBE_FORMATTER" "Ljava/util/function/BiFunction;") (by decide +kernel)) (hts (.initialized "jdk/internal/util/Preconditions") (by decide +kernel)) hv hA
  exact ⟨(adK, adV, t), hS, z1, z2, vk_R.of (hts (.stringRef "VoiceFall$Reader" 140 "plain") (by decide +kernel)) (hE 0 (by decide)), vk_R.of (hts (.stringRef "VoiceFall$Reader" 142 "small") (by decide +kernel)) (hE 1 (by decide)), vk_R.of (hts (.stringRef "VoiceFall$Reader" 144 "sermon") (by decide +kernel)) (hE 2 (by decide)), vk_R.of (hts (.stringRef "VoiceFall$Reader" 146 "proposal") (by decide +kernel)) (hE 3 (by decide)), vk_R.of (hts (.stringRef "VoiceFall$Reader" 148 "wall") (by decide +kernel)) (hE 4 (by decide)), vk_R.of (hts (.stringRef "VoiceFall$Reader" 150 "wind") (by decide +kernel)) (hE 5 (by decide)), vk_R.of (hts (.stringRef "VoiceFall$Reader" 152 "hearer") (by decide +kernel)) (hE 6 (by decide))⟩
theorem arr_of {s : State} {args : Array Value} {ty : FieldType} (h : (Cond.arrayClass ty).before args s = true) (hty : ∀ C, ty ≠ .object C) : ∃ cA : ClassId, ArrOfT s cA ty ∧ va_RA s cA ty := by
  obtain ⟨cA, kA, comp, h1, h2, h3⟩ := Cond.arrayClass_spec h
  refine ⟨cA, fun n z => ⟨fun k q => (by cases q), kA, h2, comp, h3⟩, ?_⟩
  cases ty with
  | object C => exact absurd rfl (hty C)
  | _ => exact h1
theorem arr_ofO {s : State} {args : Array Value} {Cn : String} (h : (Cond.arrayOver (.object Cn)).before args s = true) : ∃ cA : ClassId, ArrOfT s cA (.object Cn) ∧ va_RA s cA (.object Cn) := by
  obtain ⟨comp, cA, kA, h1, h2, h3, h4, h5⟩ := Cond.arrayOver_spec h
  exact ⟨cA, fun n z => ⟨fun k q => (by cases q), kA, h3, comp, h4⟩, kA, comp, h3, h4, h1, h5⟩
theorem arr_ofA {s : State} {args : Array Value} (h : (Cond.arrayOver (.array .int)).before args s = true) : ∃ cA : ClassId, ArrOfT s cA (.array .int) ∧ va_RA s cA (.array .int) := by
  unfold Cond.before Cond.holds at h
  simp only [Cond.value] at h
  cases hc : s.vm.findClass (FieldType.array .int).toString with
  | none => simp [hc] at h
  | some comp =>
    rw [hc, Option.bind_some] at h
    cases hi0 : (s.vm.classes.findIdx? fun (x : Class) => match x.kind with | .array component _ => component == comp | _ => false) with
    | none => erw [hi0] at h; simp at h
    | some c =>
      erw [hi0] at h
      simp only [Option.bind_some] at h
      cases hk : s.vm.classes[c]? with
      | none => simp [hk] at h
      | some k =>
        rw [hk] at h
        simp only [Option.map_some] at h
        cases hkk : k.kind with
        | array cm ty =>
          rw [hkk] at h
          simp at h
          obtain ⟨g1, g2⟩ := h
          subst g1
          exact ⟨c, fun n z => ⟨fun q hq => (by cases hq), k, hk, cm, hkk⟩, g2⟩
        | _ => rw [hkk] at h; simp at h
theorem start_K {s : State} {b : Nat} (hts : ∀ w ∈ lw_tbl, w.before #[Value.ref b] s = true) : ∃ g : Gx, va_K g.1 vwCl (tyl g) s := by
  obtain ⟨c0, i0, h0⟩ := u_known (C := RX0) (T := TX0) (N := 9) (n := 9) hts (fun w h => (lin_wsX00 w h).1) (hts (.instantiable RX0 9) (by decide +kernel))
  obtain ⟨c1, i1, h1⟩ := u_known (C := RX1) (T := TX1) (N := 7) (n := 7) hts (fun w h => (lin_wsX10 w h).1) (hts (.instantiable RX1 7) (by decide +kernel))
  obtain ⟨c2, i2, h2⟩ := u_known (C := RX2) (T := TX2) (N := 10) (n := 10) hts (fun w h => (lin_wsX20 w h).1) (hts (.instantiable RX2 10) (by decide +kernel))
  obtain ⟨c3, i3, h3⟩ := u_known (C := RX4) (T := TX4) (N := 4) (n := 4) hts (fun w h => (lin_wsX40 w h).1) (hts (.instantiable RX4 4) (by decide +kernel))
  obtain ⟨c4, i4, h4⟩ := u_known (C := RX5) (T := TX5) (N := 9) (n := 9) hts (fun w h => (lin_wsX50 w h).1) (hts (.instantiable RX5 9) (by decide +kernel))
  obtain ⟨c5, i5, h5⟩ := u_known (C := RX6) (T := TX6) (N := 32) (n := 32) hts (fun w h => (lin_wsX60 w h).1) (hts (.instantiable RX6 32) (by decide +kernel))
  obtain ⟨y0, q0⟩ := arr_of (hts (.arrayClass .int) (by decide +kernel)) (fun _ h => by cases h)
  obtain ⟨y1, q1⟩ := arr_of (hts (.arrayClass .boolean) (by decide +kernel)) (fun _ h => by cases h)
  obtain ⟨y2, q2⟩ := arr_of (hts (.arrayClass .byte) (by decide +kernel)) (fun _ h => by cases h)
  obtain ⟨y3, q3⟩ := arr_ofA (hts (.arrayOver (.array .int)) (by decide +kernel))
  obtain ⟨y4, q4⟩ := arr_ofO (hts (.arrayOver (.object "VoiceFall$Coast")) (by decide +kernel))
  obtain ⟨y5, q5⟩ := arr_ofO (hts (.arrayOver (.object "VoiceFall$Sheet")) (by decide +kernel))
  refine ⟨((fun k => [c0, c1, c2, c3, c4, c5].getD k c0, fun k => [i0, i1, i2, i3, i4, i5].getD k i0), fun k => [y0, y1, y2, y3, y4, y5].getD k y0), fun k q hq => ?_, fun k q hq => ?_⟩
  · have hk : k < 6 := (List.getElem?_eq_some_iff.mp hq).1
    rcases (show k = 0 ∨ k = 1 ∨ k = 2 ∨ k = 3 ∨ k = 4 ∨ k = 5 by omega) with e | e | e | e | e | e <;> subst e <;> cases hq <;> assumption
  · have hk : k < 6 := (List.getElem?_eq_some_iff.mp hq).1
    rcases (show k = 0 ∨ k = 1 ∨ k = 2 ∨ k = 3 ∨ k = 4 ∨ k = 5 by omega) with e | e | e | e | e | e <;> subst e <;> cases hq <;> assumption
theorem start_B {s : State} {b : Nat} (hts : ∀ w ∈ lw_tbl, w.before #[Value.ref b] s = true) : BxV s :=
  ⟨hts (.arrayOver (.array .int)) (by decide +kernel), hts (.arrayOver (.object "VoiceFall$Coast")) (by decide +kernel), hts (.arrayOver (.object "VoiceFall$Sheet")) (by decide +kernel), va_Nw.of rfl (hts (.methodLinkNest RX5 9 yX2_init "VoiceFall") (by decide +kernel)), va_Nw.of rfl (hts (.methodLinkNest RX5 28 yX1_init "VoiceFall") (by decide +kernel)), va_Nw.of rfl (hts (.methodLinkNest RX5 51 yX4_init "VoiceFall") (by decide +kernel))⟩
