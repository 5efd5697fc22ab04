-- what is asked of a coast and of its day, both sides
theorem ci_eq {p q : Nat} (hp : p < 64) (hq : q < 64) : (nI (cell p) = nI (cell q)) = (p = q) := by
  have h1 := cell_lt hp
  have h2 := cell_lt hq
  rw [propext (nI_eq (show cell p < 2 ^ 31 by omega) (show cell q < 2 ^ 31 by omega)), propext (cell_inj hp hq)]
theorem shl_0 {k : Nat} (h : k < 32) : nI 0 <<< (nI k &&& nI 31) = nI 0 := by
  rw [shl_n (by omega) h, Nat.zero_mul]
theorem flag_1 : fX6_flag (nI 1) = some (nI 1) := by decide
theorem flag_0 : fX6_flag (nI 0) = some (nI 0) := by decide
theorem flag_b (b : Bool) : fX6_flag (if b then nI 1 else nI 0) = some (if b then nI 1 else nI 0) := by cases b <;> decide
theorem or_0 (a : Nat) : a ||| 0 = a := Nat.or_zero a
/-- outside of a range -/
theorem rgA {α : Type} {p : Int32} {b : Nat} (x y : α) (h : p < nI 0 ∨ nI b < p) : (if p < nI 0 then x else if p ≤ nI b then y else x) = x := by
  by_cases c : p < nI 0
  · rw [if_pos c]
  · rw [if_neg c, if_neg]
    rcases h with h | h
    · exact absurd h c
    · exact (fa_of_lt h).2.1
theorem rgB {α : Type} {p : Int32} {b : Nat} (x y : α) (hb : b < 2 ^ 30) (h : p < nI 0 ∨ nI b < p) : (if p < nI 0 then x else if nI (b + 1) ≤ p then x else y) = x := by
  by_cases c : p < nI 0
  · rw [if_pos c]
  · rw [if_neg c, if_pos]
    rcases h with h | h
    · exact absurd h c
    · rw [fa_lt, nI_toInt (by omega)] at h
      rw [fa_le, nI_toInt (by omega)]
      omega
theorem rgC {α : Type} {p : Int32} {a b : Nat} (x y : α) (ha : a < 2 ^ 30) (h : p < nI a ∨ nI b < p) : (if p < nI a then x else if nI b < p then x else y) = x := by
  by_cases c : p < nI a
  · rw [if_pos c]
  · rw [if_neg c, if_pos]
    exact h.resolve_left c
/-- a range, as the class and as the reference test it -/
theorem c_fits (k : Nat) (hk : k = 0 ∨ k = 2 ∨ k = 3 ∨ k = 4 ∨ k = 5) (p : Int32) : (∃ j, (if k = 3 then 1 else 0) ≤ j ∧ j ≤ (if k = 0 then 3 else if k = 2 then 3 else if k = 5 then 4 else 9) ∧ p = nI j ∧ fX3_fits (nI k) p = some (nI 1) ∧ fX6_in p.toInt64 (lN (if k = 3 then 1 else 0)) (lN (if k = 0 then 3 else if k = 2 then 3 else if k = 5 then 4 else 9)) = some (nI 1)) ∨ (fX3_fits (nI k) p = some (nI 0) ∧ fX6_in p.toInt64 (lN (if k = 3 then 1 else 0)) (lN (if k = 0 then 3 else if k = 2 then 3 else if k = 5 then 4 else 9)) = some (nI 0)) := by
  rcases hk with rfl | rfl | rfl | rfl | rfl
  · rcases in_rg p 0 3 (by omega) (by omega) with ⟨j, h1, h2, rfl, h3⟩ | ⟨h1, h2⟩
    · refine Or.inl ⟨j, h1, h2, rfl, ?_, h3⟩
      simp (disch := omega) only [fX3_fits, nm_q, bd1_some, bd2_some, bd3_some, bd4_some, bd5_some, bd6_some, bd7_some, bd8_some, bd9_some, bd10_some, bd11_some, bd1_ite, ↓reduceIte, gd_nI, gb_nI, gb_ite, li, liL, nI_add, nI_1, pk_sub, pk_mul, pk_div, nI_clamp, nI_eq, nI_leI, nI_ltI, nI_eqn, nI_neq, nI_nn, nI_len, nI_ltn, ngI_le, ngI_lt, nng, sm10, sm8, shr_n, shl_n, and_1, fa_or, leT, leF, ltT, ltF, eqT, eqF]
    · exact Or.inr ⟨rgC (a := 0) _ _ (by omega) h1, h2⟩
  · rcases in_rg p 0 3 (by omega) (by omega) with ⟨j, h1, h2, rfl, h3⟩ | ⟨h1, h2⟩
    · refine Or.inl ⟨j, h1, h2, rfl, ?_, h3⟩
      simp (disch := omega) only [fX3_fits, nm_q, bd1_some, bd2_some, bd3_some, bd4_some, bd5_some, bd6_some, bd7_some, bd8_some, bd9_some, bd10_some, bd11_some, bd1_ite, ↓reduceIte, gd_nI, gb_nI, gb_ite, li, liL, nI_add, nI_1, pk_sub, pk_mul, pk_div, nI_clamp, nI_eq, nI_leI, nI_ltI, nI_eqn, nI_neq, nI_nn, nI_len, nI_ltn, ngI_le, ngI_lt, nng, sm10, sm8, shr_n, shl_n, and_1, fa_or, leT, leF, ltT, ltF, eqT, eqF]
    · exact Or.inr ⟨rgB (b := 3) _ _ (by omega) h1, h2⟩
  · rcases in_rg p 1 9 (by omega) (by omega) with ⟨j, h1, h2, rfl, h3⟩ | ⟨h1, h2⟩
    · refine Or.inl ⟨j, h1, h2, rfl, ?_, h3⟩
      simp (disch := omega) only [fX3_fits, nm_q, bd1_some, bd2_some, bd3_some, bd4_some, bd5_some, bd6_some, bd7_some, bd8_some, bd9_some, bd10_some, bd11_some, bd1_ite, ↓reduceIte, gd_nI, gb_nI, gb_ite, li, liL, nI_add, nI_1, pk_sub, pk_mul, pk_div, nI_clamp, nI_eq, nI_leI, nI_ltI, nI_eqn, nI_neq, nI_nn, nI_len, nI_ltn, ngI_le, ngI_lt, nng, sm10, sm8, shr_n, shl_n, and_1, fa_or, leT, leF, ltT, ltF, eqT, eqF]
    · exact Or.inr ⟨rgC (a := 1) _ _ (by omega) h1, h2⟩
  · rcases in_rg p 0 9 (by omega) (by omega) with ⟨j, h1, h2, rfl, h3⟩ | ⟨h1, h2⟩
    · refine Or.inl ⟨j, h1, h2, rfl, ?_, h3⟩
      simp (disch := omega) only [fX3_fits, nm_q, bd1_some, bd2_some, bd3_some, bd4_some, bd5_some, bd6_some, bd7_some, bd8_some, bd9_some, bd10_some, bd11_some, bd1_ite, ↓reduceIte, gd_nI, gb_nI, gb_ite, li, liL, nI_add, nI_1, pk_sub, pk_mul, pk_div, nI_clamp, nI_eq, nI_leI, nI_ltI, nI_eqn, nI_neq, nI_nn, nI_len, nI_ltn, ngI_le, ngI_lt, nng, sm10, sm8, shr_n, shl_n, and_1, fa_or, leT, leF, ltT, ltF, eqT, eqF]
    · exact Or.inr ⟨rgB (b := 9) _ _ (by omega) h1, h2⟩
  · rcases in_rg p 0 4 (by omega) (by omega) with ⟨j, h1, h2, rfl, h3⟩ | ⟨h1, h2⟩
    · refine Or.inl ⟨j, h1, h2, rfl, ?_, h3⟩
      simp (disch := omega) only [fX3_fits, nm_q, bd1_some, bd2_some, bd3_some, bd4_some, bd5_some, bd6_some, bd7_some, bd8_some, bd9_some, bd10_some, bd11_some, bd1_ite, ↓reduceIte, gd_nI, gb_nI, gb_ite, li, liL, nI_add, nI_1, pk_sub, pk_mul, pk_div, nI_clamp, nI_eq, nI_leI, nI_ltI, nI_eqn, nI_neq, nI_nn, nI_len, nI_ltn, ngI_le, ngI_lt, nng, sm10, sm8, shr_n, shl_n, and_1, fa_or, leT, leF, ltT, ltF, eqT, eqF]
    · exact Or.inr ⟨rgC (a := 0) _ _ (by omega) h1, h2⟩
theorem isSay {N : Nat} {c : CT} {st : AI} (hN : N ≤ 5) (hc : cSa c = nI N) (hm : st 43 = nI N) (p : Int32) : (∃ s, s < N ∧ p = nI s ∧ fX0_isSaying p c = some (nI 1) ∧ fX6_isSaying p st = some (nI 1)) ∨ (fX0_isSaying p c = some (nI 0) ∧ fX6_isSaying p st = some (nI 0)) := by
  have e : (nI N - nI 1).toInt64 = (nI N - nI 1).toInt64 := rfl
  rcases pk_ix p (n := N) (by omega) with h | h | ⟨j, h, rfl⟩
  · refine Or.inr ⟨?_, ?_⟩
    · rw [fX0_isSaying, if_pos h]; rfl
    · simp only [fX6_isSaying, nm, hm]
      rw [show (fX6_in p.toInt64 0 (nI N - 1).toInt64) = some 0 from in_no (lo := 0) (Or.inl h)]
      rfl
  · refine Or.inr ⟨?_, ?_⟩
    · rw [fX0_isSaying, hc, if_pos h]
      by_cases c : p < 0
      · rw [if_pos c]; rfl
      · rw [if_neg c]; rfl
    · simp only [fX6_isSaying, nm, hm]
      rw [show (fX6_in p.toInt64 0 (nI N - 1).toInt64) = some 0 from in_no (lo := 0) (Or.inr (by
        rw [fa_le, nI_toInt (by omega)] at h
        rw [fa_lt, show (1 : Int32) = nI 1 from rfl, pk_sub_toInt (by omega) (by omega)]
        omega))]
      rfl
  · refine Or.inl ⟨j, h, rfl, ?_, ?_⟩
    · simp (disch := omega) only [fX0_isSaying, hc, nm_q, bd1_some, bd2_some, bd3_some, bd4_some, bd5_some, bd6_some, bd7_some, bd8_some, bd9_some, bd10_some, bd11_some, bd1_ite, ↓reduceIte, gd_nI, gb_nI, gb_ite, li, liL, nI_add, nI_1, pk_sub, pk_mul, pk_div, nI_clamp, nI_eq, nI_leI, nI_ltI, nI_eqn, nI_neq, nI_nn, nI_len, nI_ltn, ngI_le, ngI_lt, nng, sm10, sm8, shr_n, shl_n, and_1, fa_or, leT, leF, ltT, ltF, eqT, eqF]
    · simp (disch := omega) only [fX6_isSaying, hm, nm_q, bd1_some, bd2_some, bd3_some, bd4_some, bd5_some, bd6_some, bd7_some, bd8_some, bd9_some, bd10_some, bd11_some, bd1_ite, ↓reduceIte, gd_nI, gb_nI, gb_ite, li, liL, nI_add, nI_1, pk_sub, pk_mul, pk_div, nI_clamp, nI_eq, nI_leI, nI_ltI, nI_eqn, nI_neq, nI_nn, nI_len, nI_ltn, ngI_le, ngI_lt, nng, sm10, sm8, shr_n, shl_n, and_1, fa_or, leT, leF, ltT, ltF, eqT, eqF]
      rw [nI_l (show N - 1 < 2 ^ 31 by omega), in_nI (by omega) (by omega) (by omega), if_pos (by omega)]
      rfl
theorem isHear {N : Nat} {c : CT} {hearers : Int32} (hN : N ≤ 4) (hc : cHe c = nI N) (hm : hearers = nI N) (p : Int32) : (∃ s, s < N ∧ p = nI s ∧ fX0_isHearer p c = some (nI 1) ∧ fX6_isHearer p hearers = some (nI 1)) ∨ (fX0_isHearer p c = some (nI 0) ∧ fX6_isHearer p hearers = some (nI 0)) := by
  subst hm
  rcases pk_ix p (n := N) (by omega) with h | h | ⟨j, h, rfl⟩
  · refine Or.inr ⟨?_, ?_⟩
    · rw [fX0_isHearer, if_pos h]; rfl
    · simp only [fX6_isHearer, nm]
      rw [show (fX6_in p.toInt64 0 (nI N - 1).toInt64) = some 0 from in_no (lo := 0) (Or.inl h)]
      rfl
  · refine Or.inr ⟨?_, ?_⟩
    · rw [fX0_isHearer, hc, if_pos h]
      by_cases c : p < 0
      · rw [if_pos c]; rfl
      · rw [if_neg c]; rfl
    · simp only [fX6_isHearer, nm]
      rw [show (fX6_in p.toInt64 0 (nI N - 1).toInt64) = some 0 from in_no (lo := 0) (Or.inr (by
        rw [fa_le, nI_toInt (by omega)] at h
        rw [fa_lt, show (1 : Int32) = nI 1 from rfl, pk_sub_toInt (by omega) (by omega)]
        omega))]
      rfl
  · refine Or.inl ⟨j, h, rfl, ?_, ?_⟩
    · simp (disch := omega) only [fX0_isHearer, hc, nm_q, bd1_some, bd2_some, bd3_some, bd4_some, bd5_some, bd6_some, bd7_some, bd8_some, bd9_some, bd10_some, bd11_some, bd1_ite, ↓reduceIte, gd_nI, gb_nI, gb_ite, li, liL, nI_add, nI_1, pk_sub, pk_mul, pk_div, nI_clamp, nI_eq, nI_leI, nI_ltI, nI_eqn, nI_neq, nI_nn, nI_len, nI_ltn, ngI_le, ngI_lt, nng, sm10, sm8, shr_n, shl_n, and_1, fa_or, leT, leF, ltT, ltF, eqT, eqF]
    · simp (disch := omega) only [fX6_isHearer, nm_q, bd1_some, bd2_some, bd3_some, bd4_some, bd5_some, bd6_some, bd7_some, bd8_some, bd9_some, bd10_some, bd11_some, bd1_ite, ↓reduceIte, gd_nI, gb_nI, gb_ite, li, liL, nI_add, nI_1, pk_sub, pk_mul, pk_div, nI_clamp, nI_eq, nI_leI, nI_ltI, nI_eqn, nI_neq, nI_nn, nI_len, nI_ltn, ngI_le, ngI_lt, nng, sm10, sm8, shr_n, shl_n, and_1, fa_or, leT, leF, ltT, ltF, eqT, eqF]
      rw [nI_l (show N - 1 < 2 ^ 31 by omega), in_nI (by omega) (by omega) (by omega), if_pos (by omega)]
      rfl
theorem isPt (p : Int32) : (∃ j, j ≤ 1 ∧ p = nI j ∧ fX6_isPart p = some (nI 1)) ∨ ((p < nI 0 ∨ nI 1 < p) ∧ fX6_isPart p = some (nI 0)) := by
  rcases in_rg p 0 1 (by omega) (by omega) with ⟨j, h1, h2, rfl, h3⟩ | ⟨h1, h2⟩
  · refine Or.inl ⟨j, h2, rfl, ?_⟩
    simp only [fX6_isPart, nm, liL, h3, bd1_some]
    rfl
  · refine Or.inr ⟨h1, ?_⟩
    simp only [fX6_isPart, nm, liL, h2, bd1_some]
    rfl
theorem m_starts (st now : AI) : fX6_starts st now = some (fa_fill st now 61) := by
  obtain ⟨F, hF⟩ : ∃ F, F = 4096 := ⟨_, rfl⟩
  rw [fX6_starts, ← hF]
  refine solo (fun n (s : Int32 × AI) => fX6_starts_L2 st (fun v1 now_2 => some now_2) n s.1 s.2) (fun i s => s = (nI i, fa_fill st now i)) (fun x => x = some (fa_fill st now 61)) 61 ?_ ?_ 61 0 F (nI 0, now) (by omega) (by omega) (by rw [fa_fill_0])
  · rintro i s n hi rfl ih
    have := ih (nI (i + 1), fa_fill st now (i + 1)) rfl
    show fX6_starts_L2 st _ (n + 1) (nI i) (fa_fill st now i) = _
    rw [fX6_starts_L2]
    simp (disch := omega) only [nm_q, bd1_some, bd2_some, bd3_some, bd4_some, bd5_some, bd6_some, bd7_some, bd8_some, bd9_some, bd10_some, bd11_some, bd1_ite, ↓reduceIte, gd_nI, gb_nI, gb_ite, li, liL, nI_add, nI_1, pk_sub, pk_mul, pk_div, nI_clamp, nI_eq, nI_leI, nI_ltI, nI_eqn, nI_neq, nI_nn, nI_len, nI_ltn, ngI_le, ngI_lt, nng, sm10, sm8, shr_n, shl_n, and_1, fa_or, leT, leF, ltT, ltF, eqT, eqF, fa_fill_succ]
    exact this
  · rintro s n rfl
    show fX6_starts_L2 st _ (n + 1) (nI 61) (fa_fill st now 61) = _
    rw [fX6_starts_L2]
    simp (disch := omega) only [nm_q, bd1_some, bd2_some, bd3_some, bd4_some, bd5_some, bd6_some, bd7_some, bd8_some, bd9_some, bd10_some, bd11_some, bd1_ite, ↓reduceIte, gd_nI, gb_nI, gb_ite, li, liL, nI_add, nI_1, pk_sub, pk_mul, pk_div, nI_clamp, nI_eq, nI_leI, nI_ltI, nI_eqn, nI_neq, nI_nn, nI_len, nI_ltn, ngI_le, ngI_lt, nng, sm10, sm8, shr_n, shl_n, and_1, fa_or, leT, leF, ltT, ltF, eqT, eqF]
theorem RN_starts {K : KT} {st : AI} {hearers : Int32} (now : AI) (hK : WFk K) (h : RCm K st 0 hearers) : RN K (kW K) (fa_fill st now 61) := by
  obtain ⟨h1, h2, h3, h4, h5, h6, h7⟩ := h
  have hN := WF_N hK
  have hH : kH K ≤ 4 := hK.2.2.2.2.2.1
  simp only [Nat.zero_add] at h1 h2 h3 h4 h6
  refine ⟨fun x hx => ?_, fun i hi => ?_, ?_, fun s hs k hk => ?_, fun i hi => ?_⟩
  · rw [fa_fill_in (by omega)]; exact h1 x hx
  · rw [fa_fill_in (by omega)]; exact h2 i hi
  · rw [fa_fill_in (by omega)]; exact h3
  · rw [fa_fill_in (by omega)]; exact h4 s hs k hk
  · rw [fa_fill_in (by omega)]; exact h6 i hi
theorem m_asIs {K : KT} {st : AI} {hearers : Int32} (now la lh ls : AI) (hK : WFk K) (h : RCm K st 0 hearers) : ∃ now' la' lh' ls', fX6_goesAsItIs st now la lh ls = some (now', la', lh', ls') ∧ RMy K now' la' lh' ls' := by
  obtain ⟨n1, l1, h1, s1, e, r⟩ := m_day la lh ls hK (RN_starts now hK h)
  refine ⟨n1, l1, h1, s1, ?_, r⟩
  rw [fX6_goesAsItIs, m_starts, bd1_some, e, bd4_some]
/-- SAYINGS that came to a place -/
def atB (K : KT) (q : Nat) : Nat := bs (fun s => (dayK K).2.1 s == q) (kN K)
theorem atB_lt {K : KT} (q : Nat) (hN : kN K ≤ 5) : atB K q < 32 := Nat.lt_of_lt_of_le (bs_lt _ _) (Nat.pow_le_pow_right (n := 2) (j := 5) (by omega) hN)
theorem c_landed {K : KT} {d : DT} {q : Nat} (h : RDy K d) (hN : kN K ≤ 5) (hq : q < 64) : fX1_landedIn (nI q) d = some (nI (atB K q)) := by
  obtain ⟨h1, h2, h3, h4⟩ := h
  obtain ⟨F, hF⟩ : ∃ F, F = 4096 := ⟨_, rfl⟩
  rw [fX1_landedIn, ← hF]
  refine solo (fun n (s : Int32 × Int32) => fX1_landedIn_L4 d (nI q) (fun v1 v2 => some v2) n s.1 s.2) (fun i s => s = (nI i, nI (bs (fun s => (dayK K).2.1 s == q) i))) (fun x => x = some (nI (atB K q))) (kN K) ?_ ?_ (kN K) 0 F (nI 0, nI 0) (by omega) (by omega) rfl
  · rintro i s n hi rfl ih
    have := ih _ rfl
    rw [bs] at this
    obtain ⟨a1, a2, _⟩ := h4 i hi
    show fX1_landedIn_L4 d (nI q) _ (n + 1) (nI i) (nI (bs (fun s => (dayK K).2.1 s == q) i)) = _
    rw [fX1_landedIn_L4]
    by_cases c : (dayK K).2.1 i = q
    · rw [if_pos (by simpa using c)] at this
      simp (disch := omega) only [nm_q, bd1_some, bd2_some, bd3_some, bd4_some, bd5_some, bd6_some, bd7_some, bd8_some, bd9_some, bd10_some, bd11_some, bd1_ite, ↓reduceIte, gd_nI, gb_nI, gb_ite, li, liL, nI_add, nI_1, pk_sub, pk_mul, pk_div, nI_clamp, nI_eq, nI_leI, nI_ltI, nI_eqn, nI_neq, nI_nn, nI_len, nI_ltn, ngI_le, ngI_lt, nng, sm10, sm8, shr_n, shl_n, and_1, fa_or, leT, leF, ltT, ltF, eqT, eqF, h3, a1, shl_1]
      exact this
    · rw [if_neg (by simpa using c), or_0] at this
      simp (disch := omega) only [nm_q, bd1_some, bd2_some, bd3_some, bd4_some, bd5_some, bd6_some, bd7_some, bd8_some, bd9_some, bd10_some, bd11_some, bd1_ite, ↓reduceIte, gd_nI, gb_nI, gb_ite, li, liL, nI_add, nI_1, pk_sub, pk_mul, pk_div, nI_clamp, nI_eq, nI_leI, nI_ltI, nI_eqn, nI_neq, nI_nn, nI_len, nI_ltn, ngI_le, ngI_lt, nng, sm10, sm8, shr_n, shl_n, and_1, fa_or, leT, leF, ltT, ltF, eqT, eqF, h3, a1, shl_1]
      exact this
  · rintro s n rfl
    show fX1_landedIn_L4 d (nI q) _ (n + 1) (nI (kN K)) (nI (bs (fun s => (dayK K).2.1 s == q) (kN K))) = _
    rw [fX1_landedIn_L4]
    simp (disch := omega) only [nm_q, bd1_some, bd2_some, bd3_some, bd4_some, bd5_some, bd6_some, bd7_some, bd8_some, bd9_some, bd10_some, bd11_some, bd1_ite, ↓reduceIte, gd_nI, gb_nI, gb_ite, li, liL, nI_add, nI_1, pk_sub, pk_mul, pk_div, nI_clamp, nI_eq, nI_leI, nI_ltI, nI_eqn, nI_neq, nI_nn, nI_len, nI_ltn, ngI_le, ngI_lt, nng, sm10, sm8, shr_n, shl_n, and_1, fa_or, leT, leF, ltT, ltF, eqT, eqF, h3]
    rfl
theorem m_landed {K : KT} {now la lh ls : AI} {q : Nat} (h : RMy K now la lh ls) (hN : kN K ≤ 5) (hq : q < 64) : fX6_landIn (nI (cell q)) now la = some (nI (atB K q)) := by
  obtain ⟨h1, h4⟩ := h
  have h3 := h1.2.2.1
  obtain ⟨F, hF⟩ : ∃ F, F = 4096 := ⟨_, rfl⟩
  rw [fX6_landIn, ← hF]
  refine solo (fun n (s : Int32 × Int32) => fX6_landIn_L4 now la (nI (cell q)) (fun v1 v2 => some v2) n s.1 s.2) (fun i s => s = (nI i, nI (bs (fun s => (dayK K).2.1 s == q) i))) (fun x => x = some (nI (atB K q))) (kN K) ?_ ?_ (kN K) 0 F (nI 0, nI 0) (by omega) (by omega) rfl
  · rintro i s n hi rfl ih
    have := ih _ rfl
    rw [bs] at this
    obtain ⟨a1, a2, _⟩ := h4 i hi
    show fX6_landIn_L4 now la (nI (cell q)) _ (n + 1) (nI i) (nI (bs (fun s => (dayK K).2.1 s == q) i)) = _
    rw [fX6_landIn_L4]
    by_cases c : (dayK K).2.1 i = q
    · rw [if_pos (by simpa using c)] at this
      simp (disch := omega) only [nm_q, bd1_some, bd2_some, bd3_some, bd4_some, bd5_some, bd6_some, bd7_some, bd8_some, bd9_some, bd10_some, bd11_some, bd1_ite, ↓reduceIte, gd_nI, gb_nI, gb_ite, li, liL, nI_add, nI_1, pk_sub, pk_mul, pk_div, nI_clamp, nI_eq, nI_leI, nI_ltI, nI_eqn, nI_neq, nI_nn, nI_len, nI_ltn, ngI_le, ngI_lt, nng, sm10, sm8, shr_n, shl_n, and_1, fa_or, leT, leF, ltT, ltF, eqT, eqF, h3, a1, shl_1, shl_0, Nat.zero_mul, Nat.or_zero, Nat.one_mul, Nat.add_zero, flag_1, flag_0, ci_eq]
      exact this
    · rw [if_neg (by simpa using c), or_0] at this
      simp (disch := omega) only [nm_q, bd1_some, bd2_some, bd3_some, bd4_some, bd5_some, bd6_some, bd7_some, bd8_some, bd9_some, bd10_some, bd11_some, bd1_ite, ↓reduceIte, gd_nI, gb_nI, gb_ite, li, liL, nI_add, nI_1, pk_sub, pk_mul, pk_div, nI_clamp, nI_eq, nI_leI, nI_ltI, nI_eqn, nI_neq, nI_nn, nI_len, nI_ltn, ngI_le, ngI_lt, nng, sm10, sm8, shr_n, shl_n, and_1, fa_or, leT, leF, ltT, ltF, eqT, eqF, h3, a1, shl_1, shl_0, Nat.zero_mul, Nat.or_zero, Nat.one_mul, Nat.add_zero, flag_1, flag_0, ci_eq]
      exact this
  · rintro s n rfl
    show fX6_landIn_L4 now la (nI (cell q)) _ (n + 1) (nI (kN K)) (nI (bs (fun s => (dayK K).2.1 s == q) (kN K))) = _
    rw [fX6_landIn_L4]
    simp (disch := omega) only [nm_q, bd1_some, bd2_some, bd3_some, bd4_some, bd5_some, bd6_some, bd7_some, bd8_some, bd9_some, bd10_some, bd11_some, bd1_ite, ↓reduceIte, gd_nI, gb_nI, gb_ite, li, liL, nI_add, nI_1, pk_sub, pk_mul, pk_div, nI_clamp, nI_eq, nI_leI, nI_ltI, nI_eqn, nI_neq, nI_nn, nI_len, nI_ltn, ngI_le, ngI_lt, nng, sm10, sm8, shr_n, shl_n, and_1, fa_or, leT, leF, ltT, ltF, eqT, eqF, h3]
    rfl
/-- HEARERS in a place -/
def hIn (K : KT) (q : Nat) : Nat := ct (fun h => kHp K h == q) (kH K)
theorem hIn_le {K : KT} (q : Nat) : hIn K q ≤ kH K := ct_le _ _
theorem c_hIn {K : KT} {c : CT} {q : Nat} (hc : RCc K c) (hH : kH K ≤ 4) (hp : ∀ h, h < kH K → kHp K h < 64) (hq : q < 64) : fX0_hearersIn (nI q) c = some (nI (hIn K q)) := by
  obtain ⟨_, _, _, _, h3, h4, _⟩ := hc
  obtain ⟨F, hF⟩ : ∃ F, F = 4096 := ⟨_, rfl⟩
  rw [fX0_hearersIn, ← hF]
  refine solo (fun n (s : Int32 × Int32) => fX0_hearersIn_L4 c (nI q) (fun v1 v2 => some v2) n s.1 s.2) (fun i s => s = (nI i, nI (ct (fun h => kHp K h == q) i))) (fun x => x = some (nI (hIn K q))) (kH K) ?_ ?_ (kH K) 0 F (nI 0, nI 0) (by omega) (by omega) rfl
  · rintro i s n hi rfl ih
    have := ih _ rfl
    rw [ct] at this
    have a1 := h4 i hi
    have a2 := hp i hi
    show fX0_hearersIn_L4 c (nI q) _ (n + 1) (nI i) (nI (ct (fun h => kHp K h == q) i)) = _
    rw [fX0_hearersIn_L4]
    by_cases e : kHp K i = q
    · rw [if_pos (by simpa using e)] at this
      simp (disch := omega) only [nm_q, bd1_some, bd2_some, bd3_some, bd4_some, bd5_some, bd6_some, bd7_some, bd8_some, bd9_some, bd10_some, bd11_some, bd1_ite, ↓reduceIte, gd_nI, gb_nI, gb_ite, li, liL, nI_add, nI_1, pk_sub, pk_mul, pk_div, nI_clamp, nI_eq, nI_leI, nI_ltI, nI_eqn, nI_neq, nI_nn, nI_len, nI_ltn, ngI_le, ngI_lt, nng, sm10, sm8, shr_n, shl_n, and_1, fa_or, leT, leF, ltT, ltF, eqT, eqF, h3, a1, c_place]
      exact this
    · rw [if_neg (by simpa using e), Nat.add_zero] at this
      simp (disch := omega) only [nm_q, bd1_some, bd2_some, bd3_some, bd4_some, bd5_some, bd6_some, bd7_some, bd8_some, bd9_some, bd10_some, bd11_some, bd1_ite, ↓reduceIte, gd_nI, gb_nI, gb_ite, li, liL, nI_add, nI_1, pk_sub, pk_mul, pk_div, nI_clamp, nI_eq, nI_leI, nI_ltI, nI_eqn, nI_neq, nI_nn, nI_len, nI_ltn, ngI_le, ngI_lt, nng, sm10, sm8, shr_n, shl_n, and_1, fa_or, leT, leF, ltT, ltF, eqT, eqF, h3, a1, c_place]
      exact this
  · rintro s n rfl
    show fX0_hearersIn_L4 c (nI q) _ (n + 1) (nI (kH K)) (nI (ct (fun h => kHp K h == q) (kH K))) = _
    rw [fX0_hearersIn_L4]
    simp (disch := omega) only [nm_q, bd1_some, bd2_some, bd3_some, bd4_some, bd5_some, bd6_some, bd7_some, bd8_some, bd9_some, bd10_some, bd11_some, bd1_ite, ↓reduceIte, gd_nI, gb_nI, gb_ite, li, liL, nI_add, nI_1, pk_sub, pk_mul, pk_div, nI_clamp, nI_eq, nI_leI, nI_ltI, nI_eqn, nI_neq, nI_nn, nI_len, nI_ltn, ngI_le, ngI_lt, nng, sm10, sm8, shr_n, shl_n, and_1, fa_or, leT, leF, ltT, ltF, eqT, eqF, h3]
    rfl
theorem m_hOf {K : KT} {now la lh ls : AI} {hearers : Int32} {s : Nat} (h : RMy K now la lh ls) (he : hearers = nI (kH K)) (hN : kN K ≤ 5) (hH : kH K ≤ 4) (hp : ∀ h, h < kH K → kHp K h < 64) (hs : s < kN K) : fX6_hearersOf (nI s) now hearers la = some (nI (hIn K ((dayK K).2.1 s))) := by
  subst he
  obtain ⟨h1, h4⟩ := h
  obtain ⟨a1, a2, _⟩ := h4 s hs
  have h5 := h1.2.2.2.2
  obtain ⟨F, hF⟩ : ∃ F, F = 4096 := ⟨_, rfl⟩
  rw [fX6_hearersOf, ← hF]
  refine solo (fun n (t : Int32 × Int32) => fX6_hearersOf_L4 now (nI (kH K)) la (nI s) (fun v1 v2 => some v2) n t.1 t.2) (fun i t => t = (nI i, nI (ct (fun h => kHp K h == (dayK K).2.1 s) i))) (fun x => x = some (nI (hIn K ((dayK K).2.1 s)))) (kH K) ?_ ?_ (kH K) 0 F (nI 0, nI 0) (by omega) (by omega) rfl
  · rintro i t n hi rfl ih
    have := ih _ rfl
    rw [ct] at this
    have b1 := h5 i hi
    have b2 := hp i hi
    show fX6_hearersOf_L4 now (nI (kH K)) la (nI s) _ (n + 1) (nI i) (nI (ct (fun h => kHp K h == (dayK K).2.1 s) i)) = _
    rw [fX6_hearersOf_L4]
    by_cases e : kHp K i = (dayK K).2.1 s
    · rw [if_pos (by simpa using e)] at this
      simp (disch := omega) only [nm_q, bd1_some, bd2_some, bd3_some, bd4_some, bd5_some, bd6_some, bd7_some, bd8_some, bd9_some, bd10_some, bd11_some, bd1_ite, ↓reduceIte, gd_nI, gb_nI, gb_ite, li, liL, nI_add, nI_1, pk_sub, pk_mul, pk_div, nI_clamp, nI_eq, nI_leI, nI_ltI, nI_eqn, nI_neq, nI_nn, nI_len, nI_ltn, ngI_le, ngI_lt, nng, sm10, sm8, shr_n, shl_n, and_1, fa_or, leT, leF, ltT, ltF, eqT, eqF, a1, b1, ci_eq, shl_1, shl_0, Nat.zero_mul, Nat.or_zero, Nat.one_mul, Nat.add_zero, flag_1, flag_0]
      exact this
    · rw [if_neg (by simpa using e), Nat.add_zero] at this
      simp (disch := omega) only [nm_q, bd1_some, bd2_some, bd3_some, bd4_some, bd5_some, bd6_some, bd7_some, bd8_some, bd9_some, bd10_some, bd11_some, bd1_ite, ↓reduceIte, gd_nI, gb_nI, gb_ite, li, liL, nI_add, nI_1, pk_sub, pk_mul, pk_div, nI_clamp, nI_eq, nI_leI, nI_ltI, nI_eqn, nI_neq, nI_nn, nI_len, nI_ltn, ngI_le, ngI_lt, nng, sm10, sm8, shr_n, shl_n, and_1, fa_or, leT, leF, ltT, ltF, eqT, eqF, a1, b1, ci_eq, shl_1, shl_0, Nat.zero_mul, Nat.or_zero, Nat.one_mul, Nat.add_zero, flag_1, flag_0]
      exact this
  · rintro t n rfl
    show fX6_hearersOf_L4 now (nI (kH K)) la (nI s) _ (n + 1) (nI (kH K)) (nI (ct (fun h => kHp K h == (dayK K).2.1 s) (kH K))) = _
    rw [fX6_hearersOf_L4]
    simp (disch := omega) only [nm_q, bd1_some, bd2_some, bd3_some, bd4_some, bd5_some, bd6_some, bd7_some, bd8_some, bd9_some, bd10_some, bd11_some, bd1_ite, ↓reduceIte, gd_nI, gb_nI, gb_ite, li, liL, nI_add, nI_1, pk_sub, pk_mul, pk_div, nI_clamp, nI_eq, nI_leI, nI_ltI, nI_eqn, nI_neq, nI_nn, nI_len, nI_ltn, ngI_le, ngI_lt, nng, sm10, sm8, shr_n, shl_n, and_1, fa_or, leT, leF, ltT, ltF, eqT, eqF]
    rfl
/-- how many are heard -/
def hrd (K : KT) : Nat := ct (fun s => decide (0 < hIn K ((dayK K).2.1 s))) (kN K)
theorem c_heard {K : KT} {c : CT} {d : DT} (hd : RDy K d) (hc : RCc K c) (hN : kN K ≤ 5) (hH : kH K ≤ 4) (hp : ∀ h, h < kH K → kHp K h < 64) : fX1_heard d c = some (nI (hrd K)) := by
  obtain ⟨h1, h2, h3, h4⟩ := hd
  obtain ⟨F, hF⟩ : ∃ F, F = 4096 := ⟨_, rfl⟩
  rw [fX1_heard, ← hF]
  refine solo (fun n (t : Int32 × Int32) => fX1_heard_L4 d c (fun v1 v2 => some v2) n t.1 t.2) (fun i t => t = (nI i, nI (ct (fun s => decide (0 < hIn K ((dayK K).2.1 s))) i))) (fun x => x = some (nI (hrd K))) (kN K) ?_ ?_ (kN K) 0 F (nI 0, nI 0) (by omega) (by omega) rfl
  · rintro i t n hi rfl ih
    have := ih _ rfl
    rw [ct] at this
    obtain ⟨a1, a2, _⟩ := h4 i hi
    have a3 := hIn_le (K := K) ((dayK K).2.1 i)
    show fX1_heard_L4 d c _ (n + 1) (nI i) (nI (ct (fun s => decide (0 < hIn K ((dayK K).2.1 s))) i)) = _
    rw [fX1_heard_L4]
    by_cases e : 0 < hIn K ((dayK K).2.1 i)
    · rw [if_pos (by simpa using e)] at this
      simp (disch := omega) only [nm_q, bd1_some, bd2_some, bd3_some, bd4_some, bd5_some, bd6_some, bd7_some, bd8_some, bd9_some, bd10_some, bd11_some, bd1_ite, ↓reduceIte, gd_nI, gb_nI, gb_ite, li, liL, nI_add, nI_1, pk_sub, pk_mul, pk_div, nI_clamp, nI_eq, nI_leI, nI_ltI, nI_eqn, nI_neq, nI_nn, nI_len, nI_ltn, ngI_le, ngI_lt, nng, sm10, sm8, shr_n, shl_n, and_1, fa_or, leT, leF, ltT, ltF, eqT, eqF, h3, a1, c_hIn hc hH hp]
      exact this
    · rw [if_neg (by simpa using e), Nat.add_zero] at this
      simp (disch := omega) only [nm_q, bd1_some, bd2_some, bd3_some, bd4_some, bd5_some, bd6_some, bd7_some, bd8_some, bd9_some, bd10_some, bd11_some, bd1_ite, ↓reduceIte, gd_nI, gb_nI, gb_ite, li, liL, nI_add, nI_1, pk_sub, pk_mul, pk_div, nI_clamp, nI_eq, nI_leI, nI_ltI, nI_eqn, nI_neq, nI_nn, nI_len, nI_ltn, ngI_le, ngI_lt, nng, sm10, sm8, shr_n, shl_n, and_1, fa_or, leT, leF, ltT, ltF, eqT, eqF, h3, a1, c_hIn hc hH hp]
      exact this
  · rintro t n rfl
    show fX1_heard_L4 d c _ (n + 1) (nI (kN K)) (nI (ct (fun s => decide (0 < hIn K ((dayK K).2.1 s))) (kN K))) = _
    rw [fX1_heard_L4]
    simp (disch := omega) only [nm_q, bd1_some, bd2_some, bd3_some, bd4_some, bd5_some, bd6_some, bd7_some, bd8_some, bd9_some, bd10_some, bd11_some, bd1_ite, ↓reduceIte, gd_nI, gb_nI, gb_ite, li, liL, nI_add, nI_1, pk_sub, pk_mul, pk_div, nI_clamp, nI_eq, nI_leI, nI_ltI, nI_eqn, nI_neq, nI_nn, nI_len, nI_ltn, ngI_le, ngI_lt, nng, sm10, sm8, shr_n, shl_n, and_1, fa_or, leT, leF, ltT, ltF, eqT, eqF, h3]
    rfl
theorem m_heard {K : KT} {now la lh ls : AI} {hearers : Int32} (h : RMy K now la lh ls) (he : hearers = nI (kH K)) (hN : kN K ≤ 5) (hH : kH K ≤ 4) (hp : ∀ h, h < kH K → kHp K h < 64) : fX6_heard now hearers la = some (nI (hrd K)) := by
  have h3 := h.1.2.2.1
  have hO := fun s hs => m_hOf (s := s) h he hN hH hp hs
  obtain ⟨F, hF⟩ : ∃ F, F = 4096 := ⟨_, rfl⟩
  rw [fX6_heard, ← hF]
  refine solo (fun n (t : Int32 × Int32) => fX6_heard_L4 now hearers la (fun v1 v2 => some v2) n t.1 t.2) (fun i t => t = (nI i, nI (ct (fun s => decide (0 < hIn K ((dayK K).2.1 s))) i))) (fun x => x = some (nI (hrd K))) (kN K) ?_ ?_ (kN K) 0 F (nI 0, nI 0) (by omega) (by omega) rfl
  · rintro i t n hi rfl ih
    have := ih _ rfl
    rw [ct] at this
    have a3 := hIn_le (K := K) ((dayK K).2.1 i)
    show fX6_heard_L4 now hearers la _ (n + 1) (nI i) (nI (ct (fun s => decide (0 < hIn K ((dayK K).2.1 s))) i)) = _
    rw [fX6_heard_L4]
    by_cases e : 0 < hIn K ((dayK K).2.1 i)
    · rw [if_pos (by simpa using e)] at this
      simp (disch := omega) only [nm_q, bd1_some, bd2_some, bd3_some, bd4_some, bd5_some, bd6_some, bd7_some, bd8_some, bd9_some, bd10_some, bd11_some, bd1_ite, ↓reduceIte, gd_nI, gb_nI, gb_ite, li, liL, nI_add, nI_1, pk_sub, pk_mul, pk_div, nI_clamp, nI_eq, nI_leI, nI_ltI, nI_eqn, nI_neq, nI_nn, nI_len, nI_ltn, ngI_le, ngI_lt, nng, sm10, sm8, shr_n, shl_n, and_1, fa_or, leT, leF, ltT, ltF, eqT, eqF, h3, hO i hi, shl_1, shl_0, Nat.zero_mul, Nat.or_zero, Nat.one_mul, Nat.add_zero, flag_1, flag_0]
      exact this
    · rw [if_neg (by simpa using e), Nat.add_zero] at this
      simp (disch := omega) only [nm_q, bd1_some, bd2_some, bd3_some, bd4_some, bd5_some, bd6_some, bd7_some, bd8_some, bd9_some, bd10_some, bd11_some, bd1_ite, ↓reduceIte, gd_nI, gb_nI, gb_ite, li, liL, nI_add, nI_1, pk_sub, pk_mul, pk_div, nI_clamp, nI_eq, nI_leI, nI_ltI, nI_eqn, nI_neq, nI_nn, nI_len, nI_ltn, ngI_le, ngI_lt, nng, sm10, sm8, shr_n, shl_n, and_1, fa_or, leT, leF, ltT, ltF, eqT, eqF, h3, hO i hi, shl_1, shl_0, Nat.zero_mul, Nat.or_zero, Nat.one_mul, Nat.add_zero, flag_1, flag_0]
      exact this
  · rintro t n rfl
    show fX6_heard_L4 now hearers la _ (n + 1) (nI (kN K)) (nI (ct (fun s => decide (0 < hIn K ((dayK K).2.1 s))) (kN K))) = _
    rw [fX6_heard_L4]
    simp (disch := omega) only [nm_q, bd1_some, bd2_some, bd3_some, bd4_some, bd5_some, bd6_some, bd7_some, bd8_some, bd9_some, bd10_some, bd11_some, bd1_ite, ↓reduceIte, gd_nI, gb_nI, gb_ite, li, liL, nI_add, nI_1, pk_sub, pk_mul, pk_div, nI_clamp, nI_eq, nI_leI, nI_ltI, nI_eqn, nI_neq, nI_nn, nI_len, nI_ltn, ngI_le, ngI_lt, nng, sm10, sm8, shr_n, shl_n, and_1, fa_or, leT, leF, ltT, ltF, eqT, eqF, h3]
    rfl
