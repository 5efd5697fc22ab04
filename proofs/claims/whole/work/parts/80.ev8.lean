-- read
theorem lgc (a b : Int64) : (lg_cmp a b < 0) = (a.toInt < b.toInt) := by
  unfold lg_cmp
  by_cases c : a > b
  · rw [if_pos c]
    have h : b.toInt < a.toInt := (fa_lt64 _ _).mp c
    exact propext ⟨fun h => absurd h (by decide), fun h2 => by omega⟩
  · rw [if_neg c]
    have h : ¬ b.toInt < a.toInt := fun h => c ((fa_lt64 _ _).mpr h)
    by_cases d : a = b
    · rw [if_pos d]
      exact propext ⟨fun h => absurd h (by decide), fun h2 => by rw [d] at h2; omega⟩
    · rw [if_neg d]
      have h3 : ¬ a.toInt = b.toInt := fun q => d ((fa_eq64 _ _).mpr q)
      exact propext ⟨fun _ => by omega, fun _ => by decide⟩
def okI (z : Int) (n : Nat) : Prop := 0 ≤ z ∧ z < n
theorem c_flaw {s : ST} {q n i c : Nat} (p : Int32) (hi : i ≤ 12) (hc : c ≤ 2) (a1 : sIs s = 1) (a2 : sLa s = nI q) (hn : n ≤ 40) (a4 : sSz s = nI n) : (okI (p.toInt + 3 * i + c) n → fX4_flawAt (nI q) (p + nI (3 * i) + nI c) s = some (nI 0)) ∧ (¬ okI (p.toInt + 3 * i + c) n → fX4_flawAt (nI q) (p + nI (3 * i) + nI c) s = some (nI 2)) := by
  have hp := fb_rng p
  rw [fX4_flawAt, if_neg (by rw [a1]; decide), if_pos a2, a4]
  have e : (p + nI (3 * i) + nI c).toInt = (p.toInt + 3 * i + c).bmod (2 ^ 32) := by
    rw [Int32.toInt_add, Int32.toInt_add, nI_toInt (by omega), nI_toInt (by omega), Int.bmod_add_bmod]
    congr 1
  have e2 : p.toInt + 3 * i + c < 2147483648 → (p + nI (3 * i) + nI c).toInt = p.toInt + 3 * i + c := fun h => by rw [e, fb_bmod (by omega) h]
  have e3 : 2147483648 ≤ p.toInt + 3 * i + c → (p + nI (3 * i) + nI c).toInt < 0 := fun h => by
    rw [e]
    have : (p.toInt + 3 * i + c).bmod (2 ^ 32) = (p.toInt + 3 * i + c - ((2 ^ 32 : Nat) : Int)).bmod (2 ^ 32) := by rw [Int.sub_bmod_right]
    rw [this, fb_bmod (by omega) (by omega)]
    omega
  unfold okI
  constructor
  · intro h
    have := e2 (by omega)
    rw [if_neg (by rw [fa_lt, this, show (0 : Int32).toInt = 0 from rfl]; omega), if_pos (by rw [fa_lt, this, nI_toInt (by omega)]; omega)]
    rfl
  · intro h
    by_cases c9 : p.toInt + 3 * i + c < 2147483648
    · have := e2 c9
      by_cases d : (p + nI (3 * i) + nI c) < (0 : Int32)
      · rw [if_pos d]; rfl
      · rw [if_neg d, if_neg]
        · rfl
        · rw [fa_lt, this, show (0 : Int32).toInt = 0 from rfl] at d
          rw [fa_lt, this, nI_toInt (by omega)]
          omega
    · rw [if_pos (by rw [fa_lt]; exact e3 (by omega))]
      rfl
theorem m_flaw {q n i c : Nat} (p : Int32) (hi : i ≤ 12) (hc : c ≤ 2) (hn : n ≤ 40) : (lg_cmp (p.toInt64 + (nI (3 * i)).toInt64 + (nI c).toInt64) (lN 0) < nI 0) = (p.toInt + 3 * i + c < 0) ∧ (lg_cmp (p.toInt64 + (nI (3 * i)).toInt64 + (nI c).toInt64) (nI n).toInt64 < nI 0) = (p.toInt + 3 * i + c < n) := by
  have hp := fb_rng p
  have e : (p.toInt64 + (nI (3 * i)).toInt64 + (nI c).toInt64).toInt = p.toInt + 3 * i + c := by
    have e1 : (p.toInt64 + (nI (3 * i)).toInt64).toInt = p.toInt + 3 * i := by
      rw [fb_addL, Int32.toInt_toInt64, Int32.toInt_toInt64, nI_toInt (by omega)]
      · omega
      · rw [Int32.toInt_toInt64, Int32.toInt_toInt64, nI_toInt (by omega)]; omega
      · rw [Int32.toInt_toInt64, Int32.toInt_toInt64, nI_toInt (by omega)]; omega
    rw [fb_addL, e1, Int32.toInt_toInt64, nI_toInt (by omega)]
    · rw [e1, Int32.toInt_toInt64, nI_toInt (by omega)]; omega
    · rw [e1, Int32.toInt_toInt64, nI_toInt (by omega)]; omega
  show (lg_cmp _ (lN 0) < 0) = _ ∧ (lg_cmp _ (nI n).toInt64 < 0) = _
  rw [lgc, lgc, e, Int32.toInt_toInt64, nI_toInt (by omega)]
  exact ⟨rfl, rfl⟩
/-- three cells of a sheet, both sides: torn for one reason, or there -/
theorem three {k q i : Nat} {s : ST} {lanes sizes cells : AI} (hk : k < 4) (hq : q < 3) (hi : i ≤ 12) (r : RS k s lanes sizes cells) (p : Int32) (F : Nat) (hF : 4 < F) : (∃ b, 1 ≤ b ∧ b ≤ 3 ∧ fX4_flawOfThree (nI q) (p + nI (3 * i)) s = some (nI b) ∧ ∃ a, ∀ C, fX6_read_L77 lanes sizes (nI k) (nI q) p (nI i) C F (nI 0) (nI 0) = C a (nI b)) ∨ (∃ j, j + 2 < 40 ∧ p + nI (3 * i) = nI j ∧ fX4_flawOfThree (nI q) (p + nI (3 * i)) s = some (nI 0) ∧ ∀ C, fX6_read_L77 lanes sizes (nI k) (nI q) p (nI i) C F (nI 0) (nI 0) = C (nI 3) (nI 0)) := by
  obtain ⟨r1, r2⟩ := r
  obtain ⟨G, hG⟩ : ∃ G, G = 4096 := ⟨_, rfl⟩
  obtain ⟨m, rfl⟩ : ∃ m, F = m + 4 := ⟨F - 4, by omega⟩
  rw [fX4_flawOfThree, ← hG]
  obtain ⟨g, rfl⟩ : ∃ g, G = g + 4 := ⟨G - 4, by omega⟩
  have n20 : ¬ nI 2 = nI 0 := by decide
  have n30 : ¬ nI 3 = nI 0 := by decide
  rcases r1 with ⟨a1, a2⟩ | ⟨a1, ⟨q', hq', a2, a3⟩, n, hn, a4, a5⟩
  · have e1 : ∀ x, fX4_flawAt (nI q) x s = some (nI 1) := fun x => by rw [fX4_flawAt, if_pos a1]; rfl
    refine Or.inl ⟨1, by omega, by omega, ?_, nI 1, fun C => ?_⟩
    · rw [fX4_flawOfThree_L5]
      simp (disch := omega) only [nm_q, bd1_some, bd2_some, bd3_some, bd4_some, bd5_some, bd6_some, bd7_some, bd8_some, bd9_some, bd10_some, bd11_some, bd1_ite, ↓reduceIte, gd_nI, gb_nI, gb_ite, li, liL, nI_add, nI_1, pk_sub, pk_mul, pk_div, nI_clamp, nI_eq, nI_leI, nI_ltI, nI_eqn, nI_neq, nI_nn, nI_len, nI_ltn, ngI_le, ngI_lt, nng, sm10, sm8, shr_n, shl_n, and_1, fa_or, leT, leF, ltT, ltF, eqT, eqF, e1]
      rw [fX4_flawOfThree_L5]
      simp (disch := omega) only [nm_q, bd1_some, bd2_some, bd3_some, bd4_some, bd5_some, bd6_some, bd7_some, bd8_some, bd9_some, bd10_some, bd11_some, bd1_ite, ↓reduceIte, gd_nI, gb_nI, gb_ite, li, liL, nI_add, nI_1, pk_sub, pk_mul, pk_div, nI_clamp, nI_eq, nI_leI, nI_ltI, nI_eqn, nI_neq, nI_nn, nI_len, nI_ltn, ngI_le, ngI_lt, nng, sm10, sm8, shr_n, shl_n, and_1, fa_or, leT, leF, ltT, ltF, eqT, eqF, e1]
    · rw [fX6_read_L77]
      simp (disch := omega) only [nm_q, bd1_some, bd2_some, bd3_some, bd4_some, bd5_some, bd6_some, bd7_some, bd8_some, bd9_some, bd10_some, bd11_some, bd1_ite, ↓reduceIte, gd_nI, gb_nI, gb_ite, li, liL, nI_add, nI_1, pk_sub, pk_mul, pk_div, nI_clamp, nI_eq, nI_leI, nI_ltI, nI_eqn, nI_neq, nI_nn, nI_len, nI_ltn, ngI_le, ngI_lt, nng, sm10, sm8, shr_n, shl_n, and_1, fa_or, leT, leF, ltT, ltF, eqT, eqF, a2]
      rw [fX6_read_L77]
      simp (disch := omega) only [nm_q, bd1_some, bd2_some, bd3_some, bd4_some, bd5_some, bd6_some, bd7_some, bd8_some, bd9_some, bd10_some, bd11_some, bd1_ite, ↓reduceIte, gd_nI, gb_nI, gb_ite, li, liL, nI_add, nI_1, pk_sub, pk_mul, pk_div, nI_clamp, nI_eq, nI_leI, nI_ltI, nI_eqn, nI_neq, nI_nn, nI_len, nI_ltn, ngI_le, ngI_lt, nng, sm10, sm8, shr_n, shl_n, and_1, fa_or, leT, leF, ltT, ltF, eqT, eqF, a2]
  · by_cases cq : q' = q
    · subst cq
      have z0 := c_flaw (c := 0) (s := s) p hi (by omega) a1 a2 hn a4
      have z1 := c_flaw (c := 1) (s := s) p hi (by omega) a1 a2 hn a4
      have z2 := c_flaw (c := 2) (s := s) p hi (by omega) a1 a2 hn a4
      have y0 := m_flaw (q := q') (c := 0) p hi (by omega) hn
      have y1 := m_flaw (q := q') (c := 1) p hi (by omega) hn
      have y2 := m_flaw (q := q') (c := 2) p hi (by omega) hn
      by_cases o0 : okI (p.toInt + 3 * i + (0 : Nat)) n
      · have w0 : (p.toInt + 3 * i + (0 : Nat) < 0) = False ∧ (p.toInt + 3 * i + (0 : Nat) < n) = True := ⟨eq_false (by unfold okI at o0; omega), eq_true o0.2⟩
        by_cases o1 : okI (p.toInt + 3 * i + (1 : Nat)) n
        · have w1 : (p.toInt + 3 * i + (1 : Nat) < 0) = False ∧ (p.toInt + 3 * i + (1 : Nat) < n) = True := ⟨eq_false (by unfold okI at o1; omega), eq_true o1.2⟩
          by_cases o2 : okI (p.toInt + 3 * i + (2 : Nat)) n
          · have w2 : (p.toInt + 3 * i + (2 : Nat) < 0) = False ∧ (p.toInt + 3 * i + (2 : Nat) < n) = True := ⟨eq_false (by unfold okI at o2; omega), eq_true o2.2⟩
            refine Or.inr ⟨(p.toInt + 3 * i).toNat, ?_, ?_, ?_, fun C => ?_⟩
            · unfold okI at o2 o0; omega
            · unfold okI at o2 o0
              rw [fa_eq, nI_toInt (by omega), Int32.toInt_add, nI_toInt (by omega), fb_bmod (by omega) (by omega)]
              omega
            · rw [fX4_flawOfThree_L5]
              simp (disch := omega) only [nm_q, bd1_some, bd2_some, bd3_some, bd4_some, bd5_some, bd6_some, bd7_some, bd8_some, bd9_some, bd10_some, bd11_some, bd1_ite, ↓reduceIte, gd_nI, gb_nI, gb_ite, li, liL, nI_add, nI_1, pk_sub, pk_mul, pk_div, nI_clamp, nI_eq, nI_leI, nI_ltI, nI_eqn, nI_neq, nI_nn, nI_len, nI_ltn, ngI_le, ngI_lt, nng, sm10, sm8, shr_n, shl_n, and_1, fa_or, leT, leF, ltT, ltF, eqT, eqF, z0.1 o0, z1.1 o1, z2.1 o2, Nat.zero_add, Nat.reduceAdd]
              rw [fX4_flawOfThree_L5]
              simp (disch := omega) only [nm_q, bd1_some, bd2_some, bd3_some, bd4_some, bd5_some, bd6_some, bd7_some, bd8_some, bd9_some, bd10_some, bd11_some, bd1_ite, ↓reduceIte, gd_nI, gb_nI, gb_ite, li, liL, nI_add, nI_1, pk_sub, pk_mul, pk_div, nI_clamp, nI_eq, nI_leI, nI_ltI, nI_eqn, nI_neq, nI_nn, nI_len, nI_ltn, ngI_le, ngI_lt, nng, sm10, sm8, shr_n, shl_n, and_1, fa_or, leT, leF, ltT, ltF, eqT, eqF, z0.1 o0, z1.1 o1, z2.1 o2, Nat.zero_add, Nat.reduceAdd]
              rw [fX4_flawOfThree_L5]
              simp (disch := omega) only [nm_q, bd1_some, bd2_some, bd3_some, bd4_some, bd5_some, bd6_some, bd7_some, bd8_some, bd9_some, bd10_some, bd11_some, bd1_ite, ↓reduceIte, gd_nI, gb_nI, gb_ite, li, liL, nI_add, nI_1, pk_sub, pk_mul, pk_div, nI_clamp, nI_eq, nI_leI, nI_ltI, nI_eqn, nI_neq, nI_nn, nI_len, nI_ltn, ngI_le, ngI_lt, nng, sm10, sm8, shr_n, shl_n, and_1, fa_or, leT, leF, ltT, ltF, eqT, eqF, z0.1 o0, z1.1 o1, z2.1 o2, Nat.zero_add, Nat.reduceAdd]
              rw [fX4_flawOfThree_L5]
              simp (disch := omega) only [nm_q, bd1_some, bd2_some, bd3_some, bd4_some, bd5_some, bd6_some, bd7_some, bd8_some, bd9_some, bd10_some, bd11_some, bd1_ite, ↓reduceIte, gd_nI, gb_nI, gb_ite, li, liL, nI_add, nI_1, pk_sub, pk_mul, pk_div, nI_clamp, nI_eq, nI_leI, nI_ltI, nI_eqn, nI_neq, nI_nn, nI_len, nI_ltn, ngI_le, ngI_lt, nng, sm10, sm8, shr_n, shl_n, and_1, fa_or, leT, leF, ltT, ltF, eqT, eqF, z0.1 o0, z1.1 o1, z2.1 o2, Nat.zero_add, Nat.reduceAdd]
            · rw [fX6_read_L77]
              simp (disch := omega) only [nm_q, bd1_some, bd2_some, bd3_some, bd4_some, bd5_some, bd6_some, bd7_some, bd8_some, bd9_some, bd10_some, bd11_some, bd1_ite, ↓reduceIte, gd_nI, gb_nI, gb_ite, li, liL, nI_add, nI_1, pk_sub, pk_mul, pk_div, nI_clamp, nI_eq, nI_leI, nI_ltI, nI_eqn, nI_neq, nI_nn, nI_len, nI_ltn, ngI_le, ngI_lt, nng, sm10, sm8, shr_n, shl_n, and_1, fa_or, leT, leF, ltT, ltF, eqT, eqF, a3, a5, y0.1, y0.2, y1.1, y1.2, y2.1, y2.2, w0.1, w0.2, w1.1, w1.2, w2.1, w2.2, Nat.zero_add, Nat.reduceAdd]
              rw [fX6_read_L77]
              simp (disch := omega) only [nm_q, bd1_some, bd2_some, bd3_some, bd4_some, bd5_some, bd6_some, bd7_some, bd8_some, bd9_some, bd10_some, bd11_some, bd1_ite, ↓reduceIte, gd_nI, gb_nI, gb_ite, li, liL, nI_add, nI_1, pk_sub, pk_mul, pk_div, nI_clamp, nI_eq, nI_leI, nI_ltI, nI_eqn, nI_neq, nI_nn, nI_len, nI_ltn, ngI_le, ngI_lt, nng, sm10, sm8, shr_n, shl_n, and_1, fa_or, leT, leF, ltT, ltF, eqT, eqF, a3, a5, y0.1, y0.2, y1.1, y1.2, y2.1, y2.2, w0.1, w0.2, w1.1, w1.2, w2.1, w2.2, Nat.zero_add, Nat.reduceAdd]
              rw [fX6_read_L77]
              simp (disch := omega) only [nm_q, bd1_some, bd2_some, bd3_some, bd4_some, bd5_some, bd6_some, bd7_some, bd8_some, bd9_some, bd10_some, bd11_some, bd1_ite, ↓reduceIte, gd_nI, gb_nI, gb_ite, li, liL, nI_add, nI_1, pk_sub, pk_mul, pk_div, nI_clamp, nI_eq, nI_leI, nI_ltI, nI_eqn, nI_neq, nI_nn, nI_len, nI_ltn, ngI_le, ngI_lt, nng, sm10, sm8, shr_n, shl_n, and_1, fa_or, leT, leF, ltT, ltF, eqT, eqF, a3, a5, y0.1, y0.2, y1.1, y1.2, y2.1, y2.2, w0.1, w0.2, w1.1, w1.2, w2.1, w2.2, Nat.zero_add, Nat.reduceAdd]
              rw [fX6_read_L77]
              simp (disch := omega) only [nm_q, bd1_some, bd2_some, bd3_some, bd4_some, bd5_some, bd6_some, bd7_some, bd8_some, bd9_some, bd10_some, bd11_some, bd1_ite, ↓reduceIte, gd_nI, gb_nI, gb_ite, li, liL, nI_add, nI_1, pk_sub, pk_mul, pk_div, nI_clamp, nI_eq, nI_leI, nI_ltI, nI_eqn, nI_neq, nI_nn, nI_len, nI_ltn, ngI_le, ngI_lt, nng, sm10, sm8, shr_n, shl_n, and_1, fa_or, leT, leF, ltT, ltF, eqT, eqF, a3, a5, y0.1, y0.2, y1.1, y1.2, y2.1, y2.2, w0.1, w0.2, w1.1, w1.2, w2.1, w2.2, Nat.zero_add, Nat.reduceAdd]
          · refine Or.inl ⟨2, by omega, by omega, ?_, nI 3, fun C => ?_⟩
            · rw [fX4_flawOfThree_L5]
              simp (disch := omega) only [nm_q, bd1_some, bd2_some, bd3_some, bd4_some, bd5_some, bd6_some, bd7_some, bd8_some, bd9_some, bd10_some, bd11_some, bd1_ite, ↓reduceIte, gd_nI, gb_nI, gb_ite, li, liL, nI_add, nI_1, pk_sub, pk_mul, pk_div, nI_clamp, nI_eq, nI_leI, nI_ltI, nI_eqn, nI_neq, nI_nn, nI_len, nI_ltn, ngI_le, ngI_lt, nng, sm10, sm8, shr_n, shl_n, and_1, fa_or, leT, leF, ltT, ltF, eqT, eqF, z0.1 o0, z1.1 o1, z2.2 o2, Nat.zero_add, Nat.reduceAdd]
              rw [fX4_flawOfThree_L5]
              simp (disch := omega) only [nm_q, bd1_some, bd2_some, bd3_some, bd4_some, bd5_some, bd6_some, bd7_some, bd8_some, bd9_some, bd10_some, bd11_some, bd1_ite, ↓reduceIte, gd_nI, gb_nI, gb_ite, li, liL, nI_add, nI_1, pk_sub, pk_mul, pk_div, nI_clamp, nI_eq, nI_leI, nI_ltI, nI_eqn, nI_neq, nI_nn, nI_len, nI_ltn, ngI_le, ngI_lt, nng, sm10, sm8, shr_n, shl_n, and_1, fa_or, leT, leF, ltT, ltF, eqT, eqF, z0.1 o0, z1.1 o1, z2.2 o2, Nat.zero_add, Nat.reduceAdd]
              rw [fX4_flawOfThree_L5]
              simp (disch := omega) only [nm_q, bd1_some, bd2_some, bd3_some, bd4_some, bd5_some, bd6_some, bd7_some, bd8_some, bd9_some, bd10_some, bd11_some, bd1_ite, ↓reduceIte, gd_nI, gb_nI, gb_ite, li, liL, nI_add, nI_1, pk_sub, pk_mul, pk_div, nI_clamp, nI_eq, nI_leI, nI_ltI, nI_eqn, nI_neq, nI_nn, nI_len, nI_ltn, ngI_le, ngI_lt, nng, sm10, sm8, shr_n, shl_n, and_1, fa_or, leT, leF, ltT, ltF, eqT, eqF, z0.1 o0, z1.1 o1, z2.2 o2, Nat.zero_add, Nat.reduceAdd]
              rw [fX4_flawOfThree_L5]
              simp (disch := omega) only [nm_q, bd1_some, bd2_some, bd3_some, bd4_some, bd5_some, bd6_some, bd7_some, bd8_some, bd9_some, bd10_some, bd11_some, bd1_ite, ↓reduceIte, gd_nI, gb_nI, gb_ite, li, liL, nI_add, nI_1, pk_sub, pk_mul, pk_div, nI_clamp, nI_eq, nI_leI, nI_ltI, nI_eqn, nI_neq, nI_nn, nI_len, nI_ltn, ngI_le, ngI_lt, nng, sm10, sm8, shr_n, shl_n, and_1, fa_or, leT, leF, ltT, ltF, eqT, eqF, z0.1 o0, z1.1 o1, z2.2 o2, Nat.zero_add, Nat.reduceAdd]
            · rw [fX6_read_L77]
              simp (disch := omega) only [nm_q, bd1_some, bd2_some, bd3_some, bd4_some, bd5_some, bd6_some, bd7_some, bd8_some, bd9_some, bd10_some, bd11_some, bd1_ite, ↓reduceIte, gd_nI, gb_nI, gb_ite, li, liL, nI_add, nI_1, pk_sub, pk_mul, pk_div, nI_clamp, nI_eq, nI_leI, nI_ltI, nI_eqn, nI_neq, nI_nn, nI_len, nI_ltn, ngI_le, ngI_lt, nng, sm10, sm8, shr_n, shl_n, and_1, fa_or, leT, leF, ltT, ltF, eqT, eqF, a3, a5, y0.1, y0.2, y1.1, y1.2, y2.1, y2.2, w0.1, w0.2, w1.1, w1.2, Nat.zero_add, Nat.reduceAdd]
              rw [fX6_read_L77]
              simp (disch := omega) only [nm_q, bd1_some, bd2_some, bd3_some, bd4_some, bd5_some, bd6_some, bd7_some, bd8_some, bd9_some, bd10_some, bd11_some, bd1_ite, ↓reduceIte, gd_nI, gb_nI, gb_ite, li, liL, nI_add, nI_1, pk_sub, pk_mul, pk_div, nI_clamp, nI_eq, nI_leI, nI_ltI, nI_eqn, nI_neq, nI_nn, nI_len, nI_ltn, ngI_le, ngI_lt, nng, sm10, sm8, shr_n, shl_n, and_1, fa_or, leT, leF, ltT, ltF, eqT, eqF, a3, a5, y0.1, y0.2, y1.1, y1.2, y2.1, y2.2, w0.1, w0.2, w1.1, w1.2, Nat.zero_add, Nat.reduceAdd]
              rw [fX6_read_L77]
              simp (disch := omega) only [nm_q, bd1_some, bd2_some, bd3_some, bd4_some, bd5_some, bd6_some, bd7_some, bd8_some, bd9_some, bd10_some, bd11_some, bd1_ite, ↓reduceIte, gd_nI, gb_nI, gb_ite, li, liL, nI_add, nI_1, pk_sub, pk_mul, pk_div, nI_clamp, nI_eq, nI_leI, nI_ltI, nI_eqn, nI_neq, nI_nn, nI_len, nI_ltn, ngI_le, ngI_lt, nng, sm10, sm8, shr_n, shl_n, and_1, fa_or, leT, leF, ltT, ltF, eqT, eqF, a3, a5, y0.1, y0.2, y1.1, y1.2, y2.1, y2.2, w0.1, w0.2, w1.1, w1.2, Nat.zero_add, Nat.reduceAdd]
              rw [fX6_read_L77]
              simp (disch := omega) only [nm_q, bd1_some, bd2_some, bd3_some, bd4_some, bd5_some, bd6_some, bd7_some, bd8_some, bd9_some, bd10_some, bd11_some, bd1_ite, ↓reduceIte, gd_nI, gb_nI, gb_ite, li, liL, nI_add, nI_1, pk_sub, pk_mul, pk_div, nI_clamp, nI_eq, nI_leI, nI_ltI, nI_eqn, nI_neq, nI_nn, nI_len, nI_ltn, ngI_le, ngI_lt, nng, sm10, sm8, shr_n, shl_n, and_1, fa_or, leT, leF, ltT, ltF, eqT, eqF, a3, a5, y0.1, y0.2, y1.1, y1.2, y2.1, y2.2, w0.1, w0.2, w1.1, w1.2, Nat.zero_add, Nat.reduceAdd]
              unfold okI at o2
              by_cases d : p.toInt + 3 * i + (2 : Nat) < 0
              · rw [if_pos d]
              · rw [if_neg d, if_neg (by omega)]
        · refine Or.inl ⟨2, by omega, by omega, ?_, nI 2, fun C => ?_⟩
          · rw [fX4_flawOfThree_L5]
            simp (disch := omega) only [nm_q, bd1_some, bd2_some, bd3_some, bd4_some, bd5_some, bd6_some, bd7_some, bd8_some, bd9_some, bd10_some, bd11_some, bd1_ite, ↓reduceIte, gd_nI, gb_nI, gb_ite, li, liL, nI_add, nI_1, pk_sub, pk_mul, pk_div, nI_clamp, nI_eq, nI_leI, nI_ltI, nI_eqn, nI_neq, nI_nn, nI_len, nI_ltn, ngI_le, ngI_lt, nng, sm10, sm8, shr_n, shl_n, and_1, fa_or, leT, leF, ltT, ltF, eqT, eqF, z0.1 o0, z1.2 o1, Nat.zero_add, Nat.reduceAdd]
            rw [fX4_flawOfThree_L5]
            simp (disch := omega) only [nm_q, bd1_some, bd2_some, bd3_some, bd4_some, bd5_some, bd6_some, bd7_some, bd8_some, bd9_some, bd10_some, bd11_some, bd1_ite, ↓reduceIte, gd_nI, gb_nI, gb_ite, li, liL, nI_add, nI_1, pk_sub, pk_mul, pk_div, nI_clamp, nI_eq, nI_leI, nI_ltI, nI_eqn, nI_neq, nI_nn, nI_len, nI_ltn, ngI_le, ngI_lt, nng, sm10, sm8, shr_n, shl_n, and_1, fa_or, leT, leF, ltT, ltF, eqT, eqF, z0.1 o0, z1.2 o1, Nat.zero_add, Nat.reduceAdd]
            rw [fX4_flawOfThree_L5]
            simp (disch := omega) only [nm_q, bd1_some, bd2_some, bd3_some, bd4_some, bd5_some, bd6_some, bd7_some, bd8_some, bd9_some, bd10_some, bd11_some, bd1_ite, ↓reduceIte, gd_nI, gb_nI, gb_ite, li, liL, nI_add, nI_1, pk_sub, pk_mul, pk_div, nI_clamp, nI_eq, nI_leI, nI_ltI, nI_eqn, nI_neq, nI_nn, nI_len, nI_ltn, ngI_le, ngI_lt, nng, sm10, sm8, shr_n, shl_n, and_1, fa_or, leT, leF, ltT, ltF, eqT, eqF, z0.1 o0, z1.2 o1, Nat.zero_add, Nat.reduceAdd]
          · rw [fX6_read_L77]
            simp (disch := omega) only [nm_q, bd1_some, bd2_some, bd3_some, bd4_some, bd5_some, bd6_some, bd7_some, bd8_some, bd9_some, bd10_some, bd11_some, bd1_ite, ↓reduceIte, gd_nI, gb_nI, gb_ite, li, liL, nI_add, nI_1, pk_sub, pk_mul, pk_div, nI_clamp, nI_eq, nI_leI, nI_ltI, nI_eqn, nI_neq, nI_nn, nI_len, nI_ltn, ngI_le, ngI_lt, nng, sm10, sm8, shr_n, shl_n, and_1, fa_or, leT, leF, ltT, ltF, eqT, eqF, a3, a5, y0.1, y0.2, y1.1, y1.2, w0.1, w0.2, Nat.zero_add, Nat.reduceAdd]
            rw [fX6_read_L77]
            simp (disch := omega) only [nm_q, bd1_some, bd2_some, bd3_some, bd4_some, bd5_some, bd6_some, bd7_some, bd8_some, bd9_some, bd10_some, bd11_some, bd1_ite, ↓reduceIte, gd_nI, gb_nI, gb_ite, li, liL, nI_add, nI_1, pk_sub, pk_mul, pk_div, nI_clamp, nI_eq, nI_leI, nI_ltI, nI_eqn, nI_neq, nI_nn, nI_len, nI_ltn, ngI_le, ngI_lt, nng, sm10, sm8, shr_n, shl_n, and_1, fa_or, leT, leF, ltT, ltF, eqT, eqF, a3, a5, y0.1, y0.2, y1.1, y1.2, w0.1, w0.2, Nat.zero_add, Nat.reduceAdd]
            rw [fX6_read_L77]
            simp (disch := omega) only [nm_q, bd1_some, bd2_some, bd3_some, bd4_some, bd5_some, bd6_some, bd7_some, bd8_some, bd9_some, bd10_some, bd11_some, bd1_ite, ↓reduceIte, gd_nI, gb_nI, gb_ite, li, liL, nI_add, nI_1, pk_sub, pk_mul, pk_div, nI_clamp, nI_eq, nI_leI, nI_ltI, nI_eqn, nI_neq, nI_nn, nI_len, nI_ltn, ngI_le, ngI_lt, nng, sm10, sm8, shr_n, shl_n, and_1, fa_or, leT, leF, ltT, ltF, eqT, eqF, a3, a5, y0.1, y0.2, y1.1, y1.2, w0.1, w0.2, Nat.zero_add, Nat.reduceAdd]
            unfold okI at o1
            by_cases d : p.toInt + 3 * i + (1 : Nat) < 0
            · rw [if_pos d]
            · rw [if_neg d, if_neg (by omega)]
      · refine Or.inl ⟨2, by omega, by omega, ?_, nI 1, fun C => ?_⟩
        · rw [fX4_flawOfThree_L5]
          simp (disch := omega) only [nm_q, bd1_some, bd2_some, bd3_some, bd4_some, bd5_some, bd6_some, bd7_some, bd8_some, bd9_some, bd10_some, bd11_some, bd1_ite, ↓reduceIte, gd_nI, gb_nI, gb_ite, li, liL, nI_add, nI_1, pk_sub, pk_mul, pk_div, nI_clamp, nI_eq, nI_leI, nI_ltI, nI_eqn, nI_neq, nI_nn, nI_len, nI_ltn, ngI_le, ngI_lt, nng, sm10, sm8, shr_n, shl_n, and_1, fa_or, leT, leF, ltT, ltF, eqT, eqF, z0.2 o0, Nat.zero_add, Nat.reduceAdd]
          rw [fX4_flawOfThree_L5]
          simp (disch := omega) only [nm_q, bd1_some, bd2_some, bd3_some, bd4_some, bd5_some, bd6_some, bd7_some, bd8_some, bd9_some, bd10_some, bd11_some, bd1_ite, ↓reduceIte, gd_nI, gb_nI, gb_ite, li, liL, nI_add, nI_1, pk_sub, pk_mul, pk_div, nI_clamp, nI_eq, nI_leI, nI_ltI, nI_eqn, nI_neq, nI_nn, nI_len, nI_ltn, ngI_le, ngI_lt, nng, sm10, sm8, shr_n, shl_n, and_1, fa_or, leT, leF, ltT, ltF, eqT, eqF, z0.2 o0, Nat.zero_add, Nat.reduceAdd]
        · rw [fX6_read_L77]
          simp (disch := omega) only [nm_q, bd1_some, bd2_some, bd3_some, bd4_some, bd5_some, bd6_some, bd7_some, bd8_some, bd9_some, bd10_some, bd11_some, bd1_ite, ↓reduceIte, gd_nI, gb_nI, gb_ite, li, liL, nI_add, nI_1, pk_sub, pk_mul, pk_div, nI_clamp, nI_eq, nI_leI, nI_ltI, nI_eqn, nI_neq, nI_nn, nI_len, nI_ltn, ngI_le, ngI_lt, nng, sm10, sm8, shr_n, shl_n, and_1, fa_or, leT, leF, ltT, ltF, eqT, eqF, a3, a5, y0.1, y0.2, Nat.zero_add, Nat.reduceAdd]
          rw [fX6_read_L77]
          simp (disch := omega) only [nm_q, bd1_some, bd2_some, bd3_some, bd4_some, bd5_some, bd6_some, bd7_some, bd8_some, bd9_some, bd10_some, bd11_some, bd1_ite, ↓reduceIte, gd_nI, gb_nI, gb_ite, li, liL, nI_add, nI_1, pk_sub, pk_mul, pk_div, nI_clamp, nI_eq, nI_leI, nI_ltI, nI_eqn, nI_neq, nI_nn, nI_len, nI_ltn, ngI_le, ngI_lt, nng, sm10, sm8, shr_n, shl_n, and_1, fa_or, leT, leF, ltT, ltF, eqT, eqF, a3, a5, y0.1, y0.2, Nat.zero_add, Nat.reduceAdd]
          unfold okI at o0
          by_cases d : p.toInt + 3 * i + (0 : Nat) < 0
          · rw [if_pos d]
          · rw [if_neg d, if_neg (by omega)]
    · have e1 : ∀ x, fX4_flawAt (nI q) x s = some (nI 3) := fun x => by
        rw [fX4_flawAt, if_neg (by rw [a1]; decide), a2, if_neg (by rw [nI_eq (by omega) (by omega)]; exact cq)]; rfl
      refine Or.inl ⟨3, by omega, by omega, ?_, nI 1, fun C => ?_⟩
      · rw [fX4_flawOfThree_L5]
        simp (disch := omega) only [nm_q, bd1_some, bd2_some, bd3_some, bd4_some, bd5_some, bd6_some, bd7_some, bd8_some, bd9_some, bd10_some, bd11_some, bd1_ite, ↓reduceIte, gd_nI, gb_nI, gb_ite, li, liL, nI_add, nI_1, pk_sub, pk_mul, pk_div, nI_clamp, nI_eq, nI_leI, nI_ltI, nI_eqn, nI_neq, nI_nn, nI_len, nI_ltn, ngI_le, ngI_lt, nng, sm10, sm8, shr_n, shl_n, and_1, fa_or, leT, leF, ltT, ltF, eqT, eqF, e1]
        rw [fX4_flawOfThree_L5]
        simp (disch := omega) only [nm_q, bd1_some, bd2_some, bd3_some, bd4_some, bd5_some, bd6_some, bd7_some, bd8_some, bd9_some, bd10_some, bd11_some, bd1_ite, ↓reduceIte, gd_nI, gb_nI, gb_ite, li, liL, nI_add, nI_1, pk_sub, pk_mul, pk_div, nI_clamp, nI_eq, nI_leI, nI_ltI, nI_eqn, nI_neq, nI_nn, nI_len, nI_ltn, ngI_le, ngI_lt, nng, sm10, sm8, shr_n, shl_n, and_1, fa_or, leT, leF, ltT, ltF, eqT, eqF, e1]
      · rw [fX6_read_L77]
        simp (disch := omega) only [nm_q, bd1_some, bd2_some, bd3_some, bd4_some, bd5_some, bd6_some, bd7_some, bd8_some, bd9_some, bd10_some, bd11_some, bd1_ite, ↓reduceIte, gd_nI, gb_nI, gb_ite, li, liL, nI_add, nI_1, pk_sub, pk_mul, pk_div, nI_clamp, nI_eq, nI_leI, nI_ltI, nI_eqn, nI_neq, nI_nn, nI_len, nI_ltn, ngI_le, ngI_lt, nng, sm10, sm8, shr_n, shl_n, and_1, fa_or, leT, leF, ltT, ltF, eqT, eqF, a3]
        rw [fX6_read_L77]
        simp (disch := omega) only [nm_q, bd1_some, bd2_some, bd3_some, bd4_some, bd5_some, bd6_some, bd7_some, bd8_some, bd9_some, bd10_some, bd11_some, bd1_ite, ↓reduceIte, gd_nI, gb_nI, gb_ite, li, liL, nI_add, nI_1, pk_sub, pk_mul, pk_div, nI_clamp, nI_eq, nI_leI, nI_ltI, nI_eqn, nI_neq, nI_nn, nI_len, nI_ltn, ngI_le, ngI_lt, nng, sm10, sm8, shr_n, shl_n, and_1, fa_or, leT, leF, ltT, ltF, eqT, eqF, a3]
theorem c_cellAt {s : ST} {j : Nat} (h : j < 40) : fX4_cellAt (nI j) s = some (sCe s j) := by
  simp (disch := omega) only [fX4_cellAt, nm_q, bd1_some, bd2_some, bd3_some, bd4_some, bd5_some, bd6_some, bd7_some, bd8_some, bd9_some, bd10_some, bd11_some, bd1_ite, ↓reduceIte, gd_nI, gb_nI, gb_ite, li, liL, nI_add, nI_1, pk_sub, pk_mul, pk_div, nI_clamp, nI_eq, nI_leI, nI_ltI, nI_eqn, nI_neq, nI_nn, nI_len, nI_ltn, ngI_le, ngI_lt, nng, sm10, sm8, shr_n, shl_n, and_1, fa_or, leT, leF, ltT, ltF, eqT, eqF]
theorem m_before (st before : AI) (C : Int32 → AI → Option (Int32 × AI × Int32 × AI)) (F : Nat) (hF : 61 < F) : fX6_read_L26 st C F 0 before = C (nI 61) (fa_fill st before 61) := by
  refine solo (fun n (t : Int32 × AI) => fX6_read_L26 st C n t.1 t.2) (fun i t => t = (nI i, fa_fill st before i)) (fun x => x = C (nI 61) (fa_fill st before 61)) 61 ?_ ?_ 61 0 F (nI 0, before) (by omega) (by omega) (by rw [fa_fill_0])
  · rintro i t n hi rfl ih
    have := ih _ rfl
    rw [← fa_fill_succ] at this
    show fX6_read_L26 st C (n + 1) (nI i) (fa_fill st before i) = _
    rw [fX6_read_L26]
    simp (disch := omega) only [nm_q, bd1_some, bd2_some, bd3_some, bd4_some, bd5_some, bd6_some, bd7_some, bd8_some, bd9_some, bd10_some, bd11_some, bd1_ite, ↓reduceIte, gd_nI, gb_nI, gb_ite, li, liL, nI_add, nI_1, pk_sub, pk_mul, pk_div, nI_clamp, nI_eq, nI_leI, nI_ltI, nI_eqn, nI_neq, nI_nn, nI_len, nI_ltn, ngI_le, ngI_lt, nng, sm10, sm8, shr_n, shl_n, and_1, fa_or, leT, leF, ltT, ltF, eqT, eqF]
    exact this
  · rintro t n rfl
    show fX6_read_L26 st C (n + 1) (nI 61) (fa_fill st before 61) = _
    rw [fX6_read_L26]
    simp (disch := omega) only [nm_q, bd1_some, bd2_some, bd3_some, bd4_some, bd5_some, bd6_some, bd7_some, bd8_some, bd9_some, bd10_some, bd11_some, bd1_ite, ↓reduceIte, gd_nI, gb_nI, gb_ite, li, liL, nI_add, nI_1, pk_sub, pk_mul, pk_div, nI_clamp, nI_eq, nI_leI, nI_ltI, nI_eqn, nI_neq, nI_nn, nI_len, nI_ltn, ngI_le, ngI_lt, nng, sm10, sm8, shr_n, shl_n, and_1, fa_or, leT, leF, ltT, ltF, eqT, eqF]
theorem m_undo (b st : AI) (C : Int32 → AI → Option (Int32 × AI × Int32 × AI)) (F : Nat) (hF : 61 < F) : fX6_read_L217 b C F (nI 0) st = C (nI 61) (fa_fill b st 61) := by
  refine solo (fun n (t : Int32 × AI) => fX6_read_L217 b C n t.1 t.2) (fun i t => t = (nI i, fa_fill b st i)) (fun x => x = C (nI 61) (fa_fill b st 61)) 61 ?_ ?_ 61 0 F (nI 0, st) (by omega) (by omega) (by rw [fa_fill_0])
  · rintro i t n hi rfl ih
    have := ih _ rfl
    rw [← fa_fill_succ] at this
    show fX6_read_L217 b C (n + 1) (nI i) (fa_fill b st i) = _
    rw [fX6_read_L217]
    simp (disch := omega) only [nm_q, bd1_some, bd2_some, bd3_some, bd4_some, bd5_some, bd6_some, bd7_some, bd8_some, bd9_some, bd10_some, bd11_some, bd1_ite, ↓reduceIte, gd_nI, gb_nI, gb_ite, li, liL, nI_add, nI_1, pk_sub, pk_mul, pk_div, nI_clamp, nI_eq, nI_leI, nI_ltI, nI_eqn, nI_neq, nI_nn, nI_len, nI_ltn, ngI_le, ngI_lt, nng, sm10, sm8, shr_n, shl_n, and_1, fa_or, leT, leF, ltT, ltF, eqT, eqF]
    exact this
  · rintro t n rfl
    show fX6_read_L217 b C (n + 1) (nI 61) (fa_fill b st 61) = _
    rw [fX6_read_L217]
    simp (disch := omega) only [nm_q, bd1_some, bd2_some, bd3_some, bd4_some, bd5_some, bd6_some, bd7_some, bd8_some, bd9_some, bd10_some, bd11_some, bd1_ite, ↓reduceIte, gd_nI, gb_nI, gb_ite, li, liL, nI_add, nI_1, pk_sub, pk_mul, pk_div, nI_clamp, nI_eq, nI_leI, nI_ltI, nI_eqn, nI_neq, nI_nn, nI_len, nI_ltn, ngI_le, ngI_lt, nng, sm10, sm8, shr_n, shl_n, and_1, fa_or, leT, leF, ltT, ltF, eqT, eqF]
