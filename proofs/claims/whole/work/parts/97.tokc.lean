-- TOKENS: the class
/-- the class's reader at a place, nothing wrong so far -/
def Cls (n : Nat) (t : Nat → Nat) (a : Nat) (r : RT) : Prop := BT n t (rTa r) ∧ rSz r = nI n ∧ rAt r = nI a ∧ rFl r = nI 0
theorem c_sp {n : Nat} {t : Nat → Nat} (C : RT → Option (Int32 × RT)) : ∀ c p F r, Cls n t p r → p + c = n → c < F → fX2_next_L0 C F r = C (rAt' r (nI (rn (isSp t) c p))) := by
  intro c
  induction c with
  | zero =>
    intro p F r h hp hF
    obtain ⟨F, rfl⟩ : ∃ m, F = m + 1 := ⟨F - 1, by omega⟩
    obtain ⟨h1, h2, h3, h4⟩ := h
    have hn := h1.1
    rw [fX2_next_L0, if_pos (by rw [h2, h3]; exact nI_le (by omega) (by omega)), rn]
    have : rAt' r (nI p) = r := by rw [← h3]
    rw [this]
  | succ c ih =>
    intro p F r h hp hF
    obtain ⟨F, rfl⟩ : ∃ m, F = m + 1 := ⟨F - 1, by omega⟩
    obtain ⟨h1, h2, h3, h4⟩ := id h
    have hn := h1.1
    obtain ⟨b1, b2⟩ := h1.2 p (by omega)
    rw [fX2_next_L0]
    by_cases e : t p = 32
    · rw [rn_y (by simpa [isSp] using e)]
      have next := ih (p + 1) F (rAt' r (nI (p + 1))) ⟨h1, h2, rfl, h4⟩ (by omega) (by omega)
      simp (disch := omega) only [nm_q, bd1_some, bd2_some, bd3_some, bd4_some, bd5_some, bd6_some, bd7_some, bd8_some, bd9_some, bd10_some, bd11_some, bd1_ite, ↓reduceIte, gd_nI, gb_nI, gb_ite, li, liL, nI_add, nI_1, pk_sub, pk_mul, pk_div, nI_clamp, nI_eq, nI_leI, nI_ltI, nI_eqn, nI_neq, nI_nn, nI_len, nI_ltn, ngI_le, ngI_lt, nng, sm10, sm8, shr_n, shl_n, and_1, fa_or, leT, leF, ltT, ltF, eqT, eqF, h2, h3, b1]
      exact next
    · rw [rn_n (by simpa [isSp] using e)]
      have : rAt' r (nI p) = r := by rw [← h3]
      rw [this]
      simp (disch := omega) only [nm_q, bd1_some, bd2_some, bd3_some, bd4_some, bd5_some, bd6_some, bd7_some, bd8_some, bd9_some, bd10_some, bd11_some, bd1_ite, ↓reduceIte, gd_nI, gb_nI, gb_ite, li, liL, nI_add, nI_1, pk_sub, pk_mul, pk_div, nI_clamp, nI_eq, nI_leI, nI_ltI, nI_eqn, nI_neq, nI_nn, nI_len, nI_ltn, ngI_le, ngI_lt, nng, sm10, sm8, shr_n, shl_n, and_1, fa_or, leT, leF, ltT, ltF, eqT, eqF, h2, h3, b1]
theorem c_lt {n : Nat} {t : Nat → Nat} (C : RT → Option (Int32 × RT)) : ∀ c p F r, Cls n t p r → p + c = n → c < F → fX2_next_L114 C F r = C (rAt' r (nI (rn (isLt t) c p))) := by
  intro c
  induction c with
  | zero =>
    intro p F r h hp hF
    obtain ⟨F, rfl⟩ : ∃ m, F = m + 1 := ⟨F - 1, by omega⟩
    obtain ⟨h1, h2, h3, h4⟩ := h
    have hn := h1.1
    rw [fX2_next_L114, if_pos (by rw [h2, h3]; exact nI_le (by omega) (by omega)), rn]
    have : rAt' r (nI p) = r := by rw [← h3]
    rw [this]
  | succ c ih =>
    intro p F r h hp hF
    obtain ⟨F, rfl⟩ : ∃ m, F = m + 1 := ⟨F - 1, by omega⟩
    obtain ⟨h1, h2, h3, h4⟩ := id h
    have hn := h1.1
    obtain ⟨b1, b2⟩ := h1.2 p (by omega)
    rw [fX2_next_L114]
    by_cases e : 97 ≤ t p ∧ t p ≤ 122
    · rw [rn_y (by simpa [isLt] using e)]
      have next := ih (p + 1) F (rAt' r (nI (p + 1))) ⟨h1, h2, rfl, h4⟩ (by omega) (by omega)
      simp (disch := omega) only [nm_q, bd1_some, bd2_some, bd3_some, bd4_some, bd5_some, bd6_some, bd7_some, bd8_some, bd9_some, bd10_some, bd11_some, bd1_ite, ↓reduceIte, gd_nI, gb_nI, gb_ite, li, liL, nI_add, nI_1, pk_sub, pk_mul, pk_div, nI_clamp, nI_eq, nI_leI, nI_ltI, nI_eqn, nI_neq, nI_nn, nI_len, nI_ltn, ngI_le, ngI_lt, nng, sm10, sm8, shr_n, shl_n, and_1, fa_or, leT, leF, ltT, ltF, eqT, eqF, h2, h3, b1]
      exact next
    · rw [rn_n (by unfold isLt; rw [← Bool.decide_and]; exact decide_eq_false e)]
      have : rAt' r (nI p) = r := by rw [← h3]
      rw [this]
      by_cases e2 : t p < 97
      · simp (disch := omega) only [nm_q, bd1_some, bd2_some, bd3_some, bd4_some, bd5_some, bd6_some, bd7_some, bd8_some, bd9_some, bd10_some, bd11_some, bd1_ite, ↓reduceIte, gd_nI, gb_nI, gb_ite, li, liL, nI_add, nI_1, pk_sub, pk_mul, pk_div, nI_clamp, nI_eq, nI_leI, nI_ltI, nI_eqn, nI_neq, nI_nn, nI_len, nI_ltn, ngI_le, ngI_lt, nng, sm10, sm8, shr_n, shl_n, and_1, fa_or, leT, leF, ltT, ltF, eqT, eqF, h2, h3, b1]
      · simp (disch := omega) only [nm_q, bd1_some, bd2_some, bd3_some, bd4_some, bd5_some, bd6_some, bd7_some, bd8_some, bd9_some, bd10_some, bd11_some, bd1_ite, ↓reduceIte, gd_nI, gb_nI, gb_ite, li, liL, nI_add, nI_1, pk_sub, pk_mul, pk_div, nI_clamp, nI_eq, nI_leI, nI_ltI, nI_eqn, nI_neq, nI_nn, nI_len, nI_ltn, ngI_le, ngI_lt, nng, sm10, sm8, shr_n, shl_n, and_1, fa_or, leT, leF, ltT, ltF, eqT, eqF, h2, h3, b1]
theorem c_dg {n : Nat} {t : Nat → Nat} {s : Nat} (C : RT → Option (Int32 × RT)) : ∀ c p F r, Cls n t p r → p + c = n → c < F → s < p → (p ≤ s + 2 → rVa r = nI (dgV t s p)) → (∀ j, s ≤ j → j < p → t j ≤ 57) → ∃ x : Int32, (rn (isDg t) c p ≤ s + 2 → x = nI (dgV t s (rn (isDg t) c p))) ∧ fX2_next_L193 C F r = C (rAt' (rVa' r x) (nI (rn (isDg t) c p))) := by
  intro c
  induction c with
  | zero =>
    intro p F r h hp hF hs hv hd
    obtain ⟨F, rfl⟩ : ∃ m, F = m + 1 := ⟨F - 1, by omega⟩
    obtain ⟨h1, h2, h3, h4⟩ := h
    have hn := h1.1
    refine ⟨rVa r, hv, ?_⟩
    rw [fX2_next_L193, if_pos (by rw [h2, h3]; exact nI_le (by omega) (by omega)), rn]
    have : rAt' (rVa' r (rVa r)) (nI p) = r := by rw [← h3]
    rw [this]
  | succ c ih =>
    intro p F r h hp hF hs hv hd
    obtain ⟨F, rfl⟩ : ∃ m, F = m + 1 := ⟨F - 1, by omega⟩
    obtain ⟨h1, h2, h3, h4⟩ := id h
    have hn := h1.1
    obtain ⟨b1, b2⟩ := h1.2 p (by omega)
    by_cases e : 48 ≤ t p ∧ t p ≤ 57
    · have hd' : ∀ j, s ≤ j → j < p + 1 → t j ≤ 57 := fun j h1 h2 => by
        by_cases z : j = p
        · rw [z]; exact e.2
        · exact hd j h1 (by omega)
      have hle := dgV_le hd
      obtain ⟨x, e1, e2⟩ := ih (p + 1) F (rAt' (rVa' r (rVa r * nI 10 + nI (t p) - nI 48)) (nI (p + 1))) ⟨h1, h2, rfl, h4⟩ (by omega) (by omega) (by omega) (fun z => by
        show rVa r * nI 10 + nI (t p) - nI 48 = _
        have hp1 : p = s + 1 := by omega
        rw [hv (by omega), pk_mul, nI_add, pk_sub (by omega)]
        congr 1
        subst hp1
        unfold dgV
        rw [if_neg (by omega), if_pos (by omega), if_neg (by omega), if_neg (by omega)]
        omega) hd'
      rw [rn_y (by simpa [isDg] using e)]
      refine ⟨x, e1, ?_⟩
      rw [fX2_next_L193]
      have hA : ∀ x, rAt (rVa' r x) = nI p := fun _ => h3
      simp (disch := omega) only [nm_q, bd1_some, bd2_some, bd3_some, bd4_some, bd5_some, bd6_some, bd7_some, bd8_some, bd9_some, bd10_some, bd11_some, bd1_ite, ↓reduceIte, gd_nI, gb_nI, gb_ite, li, liL, nI_add, nI_1, pk_sub, pk_mul, pk_div, nI_clamp, nI_eq, nI_leI, nI_ltI, nI_eqn, nI_neq, nI_nn, nI_len, nI_ltn, ngI_le, ngI_lt, nng, sm10, sm8, shr_n, shl_n, and_1, fa_or, leT, leF, ltT, ltF, eqT, eqF, h2, h3, b1, hA]
      exact e2
    · rw [rn_n (by unfold isDg; rw [← Bool.decide_and]; exact decide_eq_false e)]
      refine ⟨rVa r, hv, ?_⟩
      have : rAt' (rVa' r (rVa r)) (nI p) = r := by rw [← h3]
      rw [this, fX2_next_L193]
      by_cases e2 : t p < 48
      · simp (disch := omega) only [nm_q, bd1_some, bd2_some, bd3_some, bd4_some, bd5_some, bd6_some, bd7_some, bd8_some, bd9_some, bd10_some, bd11_some, bd1_ite, ↓reduceIte, gd_nI, gb_nI, gb_ite, li, liL, nI_add, nI_1, pk_sub, pk_mul, pk_div, nI_clamp, nI_eq, nI_leI, nI_ltI, nI_eqn, nI_neq, nI_nn, nI_len, nI_ltn, ngI_le, ngI_lt, nng, sm10, sm8, shr_n, shl_n, and_1, fa_or, leT, leF, ltT, ltF, eqT, eqF, h2, h3, b1]
      · simp (disch := omega) only [nm_q, bd1_some, bd2_some, bd3_some, bd4_some, bd5_some, bd6_some, bd7_some, bd8_some, bd9_some, bd10_some, bd11_some, bd1_ite, ↓reduceIte, gd_nI, gb_nI, gb_ite, li, liL, nI_add, nI_1, pk_sub, pk_mul, pk_div, nI_clamp, nI_eq, nI_leI, nI_ltI, nI_eqn, nI_neq, nI_nn, nI_len, nI_ltn, ngI_le, ngI_lt, nng, sm10, sm8, shr_n, shl_n, and_1, fa_or, leT, leF, ltT, ltF, eqT, eqF, h2, h3, b1]
/-- what next brings, for the class: a token, or a flaw -/
theorem c_next {n : Nat} {t : Nat → Nat} {a : Nat} {r : RT} (h : Cls n t a r) (ha : a ≤ n) : ∃ r', rTh r' = rTh r ∧ rSt r' = nI (tkS n t a) ∧ (tkK n t a ≠ 4 ∧ fX2_next r = some (nI 1, r') ∧ Cls n t (tkE n t a) r' ∧ rTo r' = nI (tkK n t a) ∧ (tkK n t a = 2 → rVa r' = nI (tkV n t a)) ∨ tkK n t a = 4 ∧ fX2_next r = some (nI 0, r') ∧ rFl r' = nI 1 ∧ rPl r' = nI (tkS n t a)) := by
  obtain ⟨h1, h2, h3, h4⟩ := id h
  have hn := h1.1
  have hb := tkS_b (t := t) ha
  have hE := tkE_b (t := t) ha
  obtain ⟨F, hF⟩ : ∃ F, F = 4096 := ⟨_, rfl⟩
  rw [fX2_next, ← hF, c_sp _ (n - a) a F r h (by omega) (by omega)]
  have hs : rn (isSp t) (n - a) a = tkS n t a := rfl
  rw [hs]
  by_cases c0 : n ≤ tkS n t a
  · have k : tkK n t a = 0 := by unfold tkK; rw [if_pos c0]
    have e : tkE n t a = tkS n t a := by unfold tkE; rw [if_pos c0]
    refine ⟨rTo' (rSt' (rAt' r (nI (tkS n t a))) (nI (tkS n t a))) (nI 0), rfl, rfl, Or.inl ⟨by rw [k]; omega, ?_, ⟨h1, h2, by rw [e], h4⟩, by rw [k], fun q => by rw [k] at q; omega⟩⟩
    rw [nm_q, if_neg (show ¬ nI (tkS n t a) < rSz r by rw [h2, fa_lt, nI_toInt (by omega), nI_toInt (by omega)]; omega), nm_q]
    rfl
  · obtain ⟨b1, b2⟩ := h1.2 (tkS n t a) (by omega)
    rw [nm_q, if_pos (show nI (tkS n t a) < rSz r by rw [h2]; exact nI_lt (by omega) (by omega)), show gd (rAt (rSt' (rAt' r (nI (tkS n t a))) (rAt (rAt' r (nI (tkS n t a)))))) 160 = gd (nI (tkS n t a)) 160 from rfl, gd_nI _ (by omega) (by omega), nm_q, show rTa (rSt' (rAt' r (nI (tkS n t a))) (rAt (rAt' r (nI (tkS n t a))))) ((rAt (rSt' (rAt' r (nI (tkS n t a))) (rAt (rAt' r (nI (tkS n t a)))))).toNatClampNeg) = rTa r ((nI (tkS n t a)).toNatClampNeg) from rfl, nI_clamp (by omega), b1, nm_q, nm_q, show rAt (rSt' (rAt' r (nI (tkS n t a))) (rAt (rAt' r (nI (tkS n t a))))) = nI (tkS n t a) from rfl, nI_1]
    obtain ⟨r1, hr1⟩ : ∃ r1, r1 = rAt' (rSt' (rAt' r (nI (tkS n t a))) (rAt (rAt' r (nI (tkS n t a))))) (nI (tkS n t a + 1)) := ⟨_, rfl⟩
    rw [← hr1]
    have q1 : BT n t (rTa r1) := by rw [hr1]; exact h1
    have q2 : rSz r1 = nI n := by rw [hr1]; exact h2
    have q3 : rAt r1 = nI (tkS n t a + 1) := by rw [hr1]
    have q4 : rFl r1 = nI 0 := by rw [hr1]; exact h4
    have q5 : rSt r1 = nI (tkS n t a) := by rw [hr1]
    have q6 : rTh r1 = rTh r := by rw [hr1]
    clear hr1
    by_cases c1 : t (tkS n t a) = 59
    · have k : tkK n t a = 3 := by unfold tkK; rw [if_neg c0, if_pos c1]
      have e : tkE n t a = tkS n t a + 1 := by unfold tkE; rw [if_neg c0, if_pos c1]
      rw [c1, if_pos (show nI 59 = 59 from rfl), nm_q]
      exact ⟨rTo' r1 3, q6, q5, Or.inl ⟨by rw [k]; omega, rfl, ⟨q1, q2, by rw [e]; exact q3, q4⟩, by rw [k]; rfl, fun q => by rw [k] at q; omega⟩⟩
    · rw [if_neg (show ¬ nI (t (tkS n t a)) = 59 by rw [show (59 : Int32) = nI 59 from rfl, nI_eq (by omega) (by omega)]; exact c1)]
      have lt : ∀ x, x < 200 → (nI (t (tkS n t a)) < nI x) = (t (tkS n t a) < x) := fun x hx => propext (by rw [fa_lt, nI_toInt (by omega), nI_toInt (by omega)]; omega)
      have gt : ∀ x, x < 200 → (nI x < nI (t (tkS n t a))) = (x < t (tkS n t a)) := fun x hx => propext (by rw [fa_lt, nI_toInt (by omega), nI_toInt (by omega)]; omega)
      have l97 : (nI (t (tkS n t a)) < 97) = (t (tkS n t a) < 97) := lt 97 (by omega)
      have l48 : (nI (t (tkS n t a)) < 48) = (t (tkS n t a) < 48) := lt 48 (by omega)
      have g57 : ((57 : Int32) < nI (t (tkS n t a))) = (57 < t (tkS n t a)) := gt 57 (by omega)
      have g122 : ((122 : Int32) < nI (t (tkS n t a))) = (122 < t (tkS n t a)) := gt 122 (by omega)
      have bad : ∀ (x : Int32), (∃ r', rTh r' = rTh r ∧ rSt r' = nI (tkS n t a) ∧ fX2_flawed 1 r1 = some (0, r') ∧ rFl r' = nI 1 ∧ rPl r' = nI (tkS n t a)) := fun _ => ⟨rPl' (rFl' r1 1) (rSt (rFl' r1 1)), q6, q5, rfl, rfl, q5⟩
      obtain ⟨rb, w1, w2, w3, w4, w5⟩ := bad 0
      by_cases c2 : 97 ≤ t (tkS n t a) ∧ t (tkS n t a) ≤ 122
      · have l : isLt t (tkS n t a) = true := by simpa [isLt] using c2
        have k : tkK n t a = 1 := by unfold tkK; rw [if_neg c0, if_neg c1, if_pos l]
        have e : tkE n t a = rn (isLt t) (n - tkS n t a) (tkS n t a) := by unfold tkE; rw [if_neg c0, if_neg c1, if_pos l]
        rw [if_neg (by rw [l97]; omega), if_neg (by rw [g122]; omega), nm_q, c_lt _ (n - tkS n t a - 1) (tkS n t a + 1) F (rTo' r1 1) ⟨q1, q2, q3, q4⟩ (by omega) (by omega)]
        have e2 : rn (isLt t) (n - tkS n t a - 1) (tkS n t a + 1) = tkE n t a := by rw [e, show n - tkS n t a = (n - tkS n t a - 1) + 1 by omega, rn_y l]; rfl
        rw [e2]
        exact ⟨rAt' (rTo' r1 1) (nI (tkE n t a)), q6, q5, Or.inl ⟨by rw [k]; omega, rfl, ⟨q1, q2, rfl, q4⟩, by rw [k]; rfl, fun q => by rw [k] at q; omega⟩⟩
      · have l : ¬ isLt t (tkS n t a) = true := by unfold isLt; rw [← Bool.decide_and]; simpa using c2
        by_cases c3 : 48 ≤ t (tkS n t a) ∧ t (tkS n t a) ≤ 57
        · have g : isDg t (tkS n t a) = true := by simpa [isDg] using c3
          have e : tkE n t a = rn (isDg t) (n - tkS n t a) (tkS n t a) := by unfold tkE; rw [if_neg c0, if_neg c1, if_neg l, if_pos g]
          have e2 : rn (isDg t) (n - tkS n t a - 1) (tkS n t a + 1) = tkE n t a := by rw [e, show n - tkS n t a = (n - tkS n t a - 1) + 1 by omega, rn_y g]; rfl
          have hlt : tkS n t a < tkE n t a := hE.2.2 (by unfold tkK; rw [if_neg c0, if_neg c1, if_neg l, if_pos g]; split <;> omega)
          rw [if_pos (by rw [l97]; omega), if_neg (by rw [l48]; omega), if_neg (by rw [g57]; omega), nm_q, nm_q, nm_q]
          obtain ⟨x, hx, ex⟩ := c_dg (s := tkS n t a) (fun r_30 => nm ((rAt r_30) - (rSt r_30)) fun x46 => if x46 ≤ 2 then (some (1, r_30)) else (bd2 (fX2_flawed 1 r_30) fun r48 r_49 => if r48 = 0 then (some (0, r_49)) else (some (1, r_49)))) (n - tkS n t a - 1) (tkS n t a + 1) F (rVa' (rTo' r1 2) (nI (t (tkS n t a)) - 48)) ⟨q1, q2, q3, q4⟩ (by omega) (by omega) (by omega) (fun _ => by show nI (t (tkS n t a)) - 48 = _; rw [show (48 : Int32) = nI 48 from rfl, pk_sub (by omega)]; unfold dgV; rw [if_neg (by omega), if_pos (by omega)]) (fun j h1 h2 => by
            have : j = tkS n t a := by omega
            rw [this]; exact c3.2)
          rw [e2] at ex hx
          rw [ex, nm_q, show rAt (rAt' (rVa' (rVa' (rTo' r1 2) (nI (t (tkS n t a)) - 48)) x) (nI (tkE n t a))) - rSt (rAt' (rVa' (rVa' (rTo' r1 2) (nI (t (tkS n t a)) - 48)) x) (nI (tkE n t a))) = nI (tkE n t a) - rSt r1 from rfl, q5, pk_sub (by omega)]
          by_cases c4 : tkE n t a ≤ tkS n t a + 2
          · have k : tkK n t a = 2 := by unfold tkK; rw [if_neg c0, if_neg c1, if_neg l, if_pos g, ← e, if_pos c4]
            rw [if_pos (show nI (tkE n t a - tkS n t a) ≤ 2 from nI_le (b := 2) (by omega) (by omega))]
            refine ⟨rAt' (rVa' (rVa' (rTo' r1 2) (nI (t (tkS n t a)) - 48)) x) (nI (tkE n t a)), q6, q5, Or.inl ⟨by rw [k]; omega, rfl, ⟨q1, q2, rfl, q4⟩, by rw [k]; rfl, fun _ => ?_⟩⟩
            show x = _
            rw [hx c4]
            congr 1
            unfold dgV tkV
            rw [if_neg (by omega), ← e]
          · have k : tkK n t a = 4 := by unfold tkK; rw [if_neg c0, if_neg c1, if_neg l, if_pos g, ← e, if_neg c4]
            rw [if_neg (show ¬ nI (tkE n t a - tkS n t a) ≤ 2 by rw [show (2 : Int32) = nI 2 from rfl, nI_leI (by omega) (by omega)]; omega)]
            exact ⟨rPl' (rFl' (rAt' (rVa' (rVa' (rTo' r1 2) (nI (t (tkS n t a)) - 48)) x) (nI (tkE n t a))) 1) (rSt (rFl' (rAt' (rVa' (rVa' (rTo' r1 2) (nI (t (tkS n t a)) - 48)) x) (nI (tkE n t a))) 1)), q6, q5, Or.inr ⟨k, rfl, rfl, q5⟩⟩
        · have g : ¬ isDg t (tkS n t a) = true := by unfold isDg; rw [← Bool.decide_and]; simpa using c3
          have k : tkK n t a = 4 := by unfold tkK; rw [if_neg c0, if_neg c1, if_neg l, if_neg g]
          refine ⟨rb, w1, w2, Or.inr ⟨k, ?_, w4, w5⟩⟩
          by_cases d1 : t (tkS n t a) < 97
          · rw [if_pos (by rw [l97]; exact d1)]
            by_cases d2 : t (tkS n t a) < 48
            · rw [if_pos (by rw [l48]; exact d2), w3]; rfl
            · rw [if_neg (by rw [l48]; exact d2), if_pos (by rw [g57]; omega), w3]; rfl
          · rw [if_neg (by rw [l97]; exact d1), if_pos (by rw [g122]; omega), if_neg (by rw [l48]; omega), if_pos (by rw [g57]; omega), w3]; rfl
