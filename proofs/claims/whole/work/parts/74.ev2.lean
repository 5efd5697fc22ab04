-- the calls that tell of the day
theorem ev_lands (v : VT) (rd : RT) (dr : CT) (nw : CT) (tr : CT) (da : DT) (i0 : CT) (i1 : CT) (s0 : ST) (s1 : ST) (s2 : ST) (s3 : ST) (st : AI) (now : AI) (isKept : AI) (hearers : Int32) (draft : AI) (dHearers : Int32) (dWalls : Int32) (toldWinds : Int32) (tape : AI) (taped : Int32) (pos : Int32) (frm : Int32) (sort : Int32) (value : Int32) (fault : Int32) (wrongAt : Int32) (landed : AI) (landedIn : AI) (stepped : AI) (isThere : AI) (isAt : AI) (isNext : AI) (landSum : Int64) (heardSum : Int64) (allWays : Int64) (ways : AI) (drawn : AI) (lanes : AI) (sizes : AI) (cells : AI) (torn : Int32) (before : AI) (hR : Rel v rd nw i0 i1 s0 s1 s2 s3 st isKept hearers tape taped fault lanes sizes cells torn) (p1 : Int32) (p2 : Int32) : ∃ (res : Int32) (da_x : DT) (now_x : AI) (landed_x : AI) (landedIn_x : AI) (stepped_x : AI), fX5_lands p1 p2 v nw da = some (res, da_x) ∧ fX6_lands p1 p2 st now landed landedIn stepped = some (res, now_x, landed_x, landedIn_x, stepped_x) ∧ (Rel v rd nw i0 i1 s0 s1 s2 s3 st isKept hearers tape taped fault lanes sizes cells torn) := by
  have hR0 := hR
  obtain ⟨⟨K, hK, hc, hm⟩, r0, r1, rt, rf, q0, q1, q2, q3, rl⟩ := hR
  have hm0 := RCm0 hm
  have hN := WF_N hK
  rcases isSay hN hc.2.2.1 hm0.2.2.1 p1 with ⟨s, hs, rfl, f1, f2⟩ | ⟨f1, f2⟩
  · rcases in_rg p2 0 2 (by omega) (by omega) with ⟨j, h1, h2, rfl, h3⟩ | ⟨h1, h2⟩
    · obtain ⟨d', g1, g2⟩ := c_day da hK hc
      obtain ⟨n', la', lh', ls', k1, k2⟩ := m_asIs now landed landedIn stepped hK hm
      obtain ⟨a1, a2, a3, a4, a5, a6⟩ := g2.2.2.2 s hs
      obtain ⟨b1, b2, b3, b4, b5, b6⟩ := k2.2 s hs
      have hj : j = 0 ∨ j = 1 ∨ j = 2 := by omega
      rcases hj with rfl | rfl | rfl
      · refine ⟨nI (cell ((dayK K).2.1 s)), d', n', la', lh', ls', ?_, ?_, hR0⟩
        · simp (disch := omega) only [fX5_lands, f1, nm_q, bd1_some, bd2_some, bd3_some, bd4_some, bd5_some, bd6_some, bd7_some, bd8_some, bd9_some, bd10_some, bd11_some, bd1_ite, ↓reduceIte, gd_nI, gb_nI, gb_ite, li, liL, nI_add, nI_1, pk_sub, pk_mul, pk_div, nI_clamp, nI_eq, nI_leI, nI_ltI, nI_eqn, nI_neq, nI_nn, nI_len, nI_ltn, ngI_le, ngI_lt, nng, sm10, sm8, shr_n, shl_n, and_1, fa_or, leT, leF, ltT, ltF, eqT, eqF, g1, a1, c_cell]
        · simp (disch := omega) only [fX6_lands, f2, nm_q, bd1_some, bd2_some, bd3_some, bd4_some, bd5_some, bd6_some, bd7_some, bd8_some, bd9_some, bd10_some, bd11_some, bd1_ite, ↓reduceIte, gd_nI, gb_nI, gb_ite, li, liL, nI_add, nI_1, pk_sub, pk_mul, pk_div, nI_clamp, nI_eq, nI_leI, nI_ltI, nI_eqn, nI_neq, nI_nn, nI_len, nI_ltn, ngI_le, ngI_lt, nng, sm10, sm8, shr_n, shl_n, and_1, fa_or, leT, leF, ltT, ltF, eqT, eqF, h3, k1, b1]
      · refine ⟨nI ((dayK K).2.2.1 s), d', n', la', lh', ls', ?_, ?_, hR0⟩
        · simp (disch := omega) only [fX5_lands, f1, nm_q, bd1_some, bd2_some, bd3_some, bd4_some, bd5_some, bd6_some, bd7_some, bd8_some, bd9_some, bd10_some, bd11_some, bd1_ite, ↓reduceIte, gd_nI, gb_nI, gb_ite, li, liL, nI_add, nI_1, pk_sub, pk_mul, pk_div, nI_clamp, nI_eq, nI_leI, nI_ltI, nI_eqn, nI_neq, nI_nn, nI_len, nI_ltn, ngI_le, ngI_lt, nng, sm10, sm8, shr_n, shl_n, and_1, fa_or, leT, leF, ltT, ltF, eqT, eqF, g1, a3]
        · simp (disch := omega) only [fX6_lands, f2, nm_q, bd1_some, bd2_some, bd3_some, bd4_some, bd5_some, bd6_some, bd7_some, bd8_some, bd9_some, bd10_some, bd11_some, bd1_ite, ↓reduceIte, gd_nI, gb_nI, gb_ite, li, liL, nI_add, nI_1, pk_sub, pk_mul, pk_div, nI_clamp, nI_eq, nI_leI, nI_ltI, nI_eqn, nI_neq, nI_nn, nI_len, nI_ltn, ngI_le, ngI_lt, nng, sm10, sm8, shr_n, shl_n, and_1, fa_or, leT, leF, ltT, ltF, eqT, eqF, h3, k1, b3]
      · refine ⟨nI ((dayK K).2.2.2 s), d', n', la', lh', ls', ?_, ?_, hR0⟩
        · simp (disch := omega) only [fX5_lands, f1, nm_q, bd1_some, bd2_some, bd3_some, bd4_some, bd5_some, bd6_some, bd7_some, bd8_some, bd9_some, bd10_some, bd11_some, bd1_ite, ↓reduceIte, gd_nI, gb_nI, gb_ite, li, liL, nI_add, nI_1, pk_sub, pk_mul, pk_div, nI_clamp, nI_eq, nI_leI, nI_ltI, nI_eqn, nI_neq, nI_nn, nI_len, nI_ltn, ngI_le, ngI_lt, nng, sm10, sm8, shr_n, shl_n, and_1, fa_or, leT, leF, ltT, ltF, eqT, eqF, g1, a5]
        · simp (disch := omega) only [fX6_lands, f2, nm_q, bd1_some, bd2_some, bd3_some, bd4_some, bd5_some, bd6_some, bd7_some, bd8_some, bd9_some, bd10_some, bd11_some, bd1_ite, ↓reduceIte, gd_nI, gb_nI, gb_ite, li, liL, nI_add, nI_1, pk_sub, pk_mul, pk_div, nI_clamp, nI_eq, nI_leI, nI_ltI, nI_eqn, nI_neq, nI_nn, nI_len, nI_ltn, ngI_le, ngI_lt, nng, sm10, sm8, shr_n, shl_n, and_1, fa_or, leT, leF, ltT, ltF, eqT, eqF, h3, k1, b5]
    · refine ⟨-nI 1, da, now, landed, landedIn, stepped, ?_, ?_, hR0⟩
      · rw [fX5_lands, f1, bd1_some, if_neg (show ¬ nI 1 = 0 from n10)]
        exact rgA _ _ h1
      · simp (disch := omega) only [fX6_lands, f2, nm_q, bd1_some, bd2_some, bd3_some, bd4_some, bd5_some, bd6_some, bd7_some, bd8_some, bd9_some, bd10_some, bd11_some, bd1_ite, ↓reduceIte, gd_nI, gb_nI, gb_ite, li, liL, nI_add, nI_1, pk_sub, pk_mul, pk_div, nI_clamp, nI_eq, nI_leI, nI_ltI, nI_eqn, nI_neq, nI_nn, nI_len, nI_ltn, ngI_le, ngI_lt, nng, sm10, sm8, shr_n, shl_n, and_1, fa_or, leT, leF, ltT, ltF, eqT, eqF, h2]
  · refine ⟨-nI 1, da, now, landed, landedIn, stepped, ?_, ?_, hR0⟩
    · simp (disch := omega) only [fX5_lands, f1, nm_q, bd1_some, bd2_some, bd3_some, bd4_some, bd5_some, bd6_some, bd7_some, bd8_some, bd9_some, bd10_some, bd11_some, bd1_ite, ↓reduceIte, gd_nI, gb_nI, gb_ite, li, liL, nI_add, nI_1, pk_sub, pk_mul, pk_div, nI_clamp, nI_eq, nI_leI, nI_ltI, nI_eqn, nI_neq, nI_nn, nI_len, nI_ltn, ngI_le, ngI_lt, nng, sm10, sm8, shr_n, shl_n, and_1, fa_or, leT, leF, ltT, ltF, eqT, eqF]
    · simp (disch := omega) only [fX6_lands, f2, nm_q, bd1_some, bd2_some, bd3_some, bd4_some, bd5_some, bd6_some, bd7_some, bd8_some, bd9_some, bd10_some, bd11_some, bd1_ite, ↓reduceIte, gd_nI, gb_nI, gb_ite, li, liL, nI_add, nI_1, pk_sub, pk_mul, pk_div, nI_clamp, nI_eq, nI_leI, nI_ltI, nI_eqn, nI_neq, nI_nn, nI_len, nI_ltn, ngI_le, ngI_lt, nng, sm10, sm8, shr_n, shl_n, and_1, fa_or, leT, leF, ltT, ltF, eqT, eqF]
theorem ev_hears (v : VT) (rd : RT) (dr : CT) (nw : CT) (tr : CT) (da : DT) (i0 : CT) (i1 : CT) (s0 : ST) (s1 : ST) (s2 : ST) (s3 : ST) (st : AI) (now : AI) (isKept : AI) (hearers : Int32) (draft : AI) (dHearers : Int32) (dWalls : Int32) (toldWinds : Int32) (tape : AI) (taped : Int32) (pos : Int32) (frm : Int32) (sort : Int32) (value : Int32) (fault : Int32) (wrongAt : Int32) (landed : AI) (landedIn : AI) (stepped : AI) (isThere : AI) (isAt : AI) (isNext : AI) (landSum : Int64) (heardSum : Int64) (allWays : Int64) (ways : AI) (drawn : AI) (lanes : AI) (sizes : AI) (cells : AI) (torn : Int32) (before : AI) (hR : Rel v rd nw i0 i1 s0 s1 s2 s3 st isKept hearers tape taped fault lanes sizes cells torn) (p1 : Int32) : ∃ (res : Int32) (da_x : DT) (now_x : AI) (landed_x : AI) (landedIn_x : AI) (stepped_x : AI), fX5_hears p1 v nw da = some (res, da_x) ∧ fX6_hears p1 st now hearers landed landedIn stepped = some (res, now_x, landed_x, landedIn_x, stepped_x) ∧ (Rel v rd nw i0 i1 s0 s1 s2 s3 st isKept hearers tape taped fault lanes sizes cells torn) := by
  have hR0 := hR
  obtain ⟨⟨K, hK, hc, hm⟩, r0, r1, rt, rf, q0, q1, q2, q3, rl⟩ := hR
  have hm0 := RCm0 hm
  have hN := WF_N hK
  have hH := WF_H hK
  rcases isHear hH hc.2.2.2.2.1 hm0.2.2.2.2.1 p1 with ⟨s, hs, rfl, f1, f2⟩ | ⟨f1, f2⟩
  · obtain ⟨d', g1, g2⟩ := c_day da hK hc
    obtain ⟨n', la', lh', ls', k1, k2⟩ := m_asIs now landed landedIn stepped hK hm
    have hp := WF_Hp hK s hs
    have e1 := hc.2.2.2.2.2.1 s hs
    have e2 := k2.1.2.2.2.2 s hs
    refine ⟨nI (atB K (kHp K s)), d', n', la', lh', ls', ?_, ?_, hR0⟩
    · simp (disch := omega) only [fX5_hears, f1, nm_q, bd1_some, bd2_some, bd3_some, bd4_some, bd5_some, bd6_some, bd7_some, bd8_some, bd9_some, bd10_some, bd11_some, bd1_ite, ↓reduceIte, gd_nI, gb_nI, gb_ite, li, liL, nI_add, nI_1, pk_sub, pk_mul, pk_div, nI_clamp, nI_eq, nI_leI, nI_ltI, nI_eqn, nI_neq, nI_nn, nI_len, nI_ltn, ngI_le, ngI_lt, nng, sm10, sm8, shr_n, shl_n, and_1, fa_or, leT, leF, ltT, ltF, eqT, eqF, g1, e1, c_place hp, c_landed g2 hN hp]
    · simp (disch := omega) only [fX6_hears, f2, nm_q, bd1_some, bd2_some, bd3_some, bd4_some, bd5_some, bd6_some, bd7_some, bd8_some, bd9_some, bd10_some, bd11_some, bd1_ite, ↓reduceIte, gd_nI, gb_nI, gb_ite, li, liL, nI_add, nI_1, pk_sub, pk_mul, pk_div, nI_clamp, nI_eq, nI_leI, nI_ltI, nI_eqn, nI_neq, nI_nn, nI_len, nI_ltn, ngI_le, ngI_lt, nng, sm10, sm8, shr_n, shl_n, and_1, fa_or, leT, leF, ltT, ltF, eqT, eqF, k1, e2, m_landed k2 hN hp]
  · refine ⟨-nI 1, da, now, landed, landedIn, stepped, ?_, ?_, hR0⟩
    · simp (disch := omega) only [fX5_hears, f1, nm_q, bd1_some, bd2_some, bd3_some, bd4_some, bd5_some, bd6_some, bd7_some, bd8_some, bd9_some, bd10_some, bd11_some, bd1_ite, ↓reduceIte, gd_nI, gb_nI, gb_ite, li, liL, nI_add, nI_1, pk_sub, pk_mul, pk_div, nI_clamp, nI_eq, nI_leI, nI_ltI, nI_eqn, nI_neq, nI_nn, nI_len, nI_ltn, ngI_le, ngI_lt, nng, sm10, sm8, shr_n, shl_n, and_1, fa_or, leT, leF, ltT, ltF, eqT, eqF]
    · simp (disch := omega) only [fX6_hears, f2, nm_q, bd1_some, bd2_some, bd3_some, bd4_some, bd5_some, bd6_some, bd7_some, bd8_some, bd9_some, bd10_some, bd11_some, bd1_ite, ↓reduceIte, gd_nI, gb_nI, gb_ite, li, liL, nI_add, nI_1, pk_sub, pk_mul, pk_div, nI_clamp, nI_eq, nI_leI, nI_ltI, nI_eqn, nI_neq, nI_nn, nI_len, nI_ltn, ngI_le, ngI_lt, nng, sm10, sm8, shr_n, shl_n, and_1, fa_or, leT, leF, ltT, ltF, eqT, eqF]
theorem ev_field (v : VT) (rd : RT) (dr : CT) (nw : CT) (tr : CT) (da : DT) (i0 : CT) (i1 : CT) (s0 : ST) (s1 : ST) (s2 : ST) (s3 : ST) (st : AI) (now : AI) (isKept : AI) (hearers : Int32) (draft : AI) (dHearers : Int32) (dWalls : Int32) (toldWinds : Int32) (tape : AI) (taped : Int32) (pos : Int32) (frm : Int32) (sort : Int32) (value : Int32) (fault : Int32) (wrongAt : Int32) (landed : AI) (landedIn : AI) (stepped : AI) (isThere : AI) (isAt : AI) (isNext : AI) (landSum : Int64) (heardSum : Int64) (allWays : Int64) (ways : AI) (drawn : AI) (lanes : AI) (sizes : AI) (cells : AI) (torn : Int32) (before : AI) (hR : Rel v rd nw i0 i1 s0 s1 s2 s3 st isKept hearers tape taped fault lanes sizes cells torn) (p1 : Int32) (p2 : Int32) : ∃ (res : Int32) (da_x : DT) (now_x : AI) (landed_x : AI) (landedIn_x : AI) (stepped_x : AI), fX5_field p1 p2 v nw da = some (res, da_x) ∧ fX6_field p1 p2 st now landed landedIn stepped = some (res, now_x, landed_x, landedIn_x, stepped_x) ∧ (Rel v rd nw i0 i1 s0 s1 s2 s3 st isKept hearers tape taped fault lanes sizes cells torn) := by
  have hR0 := hR
  obtain ⟨⟨K, hK, hc, hm⟩, r0, r1, rt, rf, q0, q1, q2, q3, rl⟩ := hR
  have hN := WF_N hK
  rcases isC p1 with ⟨q, hq, rfl, f1, f2⟩ | ⟨f1, f2⟩
  · rcases isPt p2 with ⟨j, hj, rfl, h3⟩ | ⟨h1, h2⟩
    · obtain ⟨d', g1, g2⟩ := c_day da hK hc
      obtain ⟨n', la', lh', ls', k1, k2⟩ := m_asIs now landed landedIn stepped hK hm
      have hj : j = 0 ∨ j = 1 := by omega
      rcases hj with rfl | rfl
      · refine ⟨nI (atB K q), d', n', la', lh', ls', ?_, ?_, hR0⟩
        · simp (disch := omega) only [fX5_field, f1, nm_q, bd1_some, bd2_some, bd3_some, bd4_some, bd5_some, bd6_some, bd7_some, bd8_some, bd9_some, bd10_some, bd11_some, bd1_ite, ↓reduceIte, gd_nI, gb_nI, gb_ite, li, liL, nI_add, nI_1, pk_sub, pk_mul, pk_div, nI_clamp, nI_eq, nI_leI, nI_ltI, nI_eqn, nI_neq, nI_nn, nI_len, nI_ltn, ngI_le, ngI_lt, nng, sm10, sm8, shr_n, shl_n, and_1, fa_or, leT, leF, ltT, ltF, eqT, eqF, g1, c_place hq, c_landed g2 hN hq]
        · simp (disch := omega) only [fX6_field, f2, nm_q, bd1_some, bd2_some, bd3_some, bd4_some, bd5_some, bd6_some, bd7_some, bd8_some, bd9_some, bd10_some, bd11_some, bd1_ite, ↓reduceIte, gd_nI, gb_nI, gb_ite, li, liL, nI_add, nI_1, pk_sub, pk_mul, pk_div, nI_clamp, nI_eq, nI_leI, nI_ltI, nI_eqn, nI_neq, nI_nn, nI_len, nI_ltn, ngI_le, ngI_lt, nng, sm10, sm8, shr_n, shl_n, and_1, fa_or, leT, leF, ltT, ltF, eqT, eqF, h3, k1, m_landed k2 hN hq]
      · refine ⟨if (dayK K).1.testBit q then nI 1 else nI 0, d', n', la', lh', ls', ?_, ?_, hR0⟩
        · simp (disch := omega) only [fX5_field, f1, nm_q, bd1_some, bd2_some, bd3_some, bd4_some, bd5_some, bd6_some, bd7_some, bd8_some, bd9_some, bd10_some, bd11_some, bd1_ite, ↓reduceIte, gd_nI, gb_nI, gb_ite, li, liL, nI_add, nI_1, pk_sub, pk_mul, pk_div, nI_clamp, nI_eq, nI_leI, nI_ltI, nI_eqn, nI_neq, nI_nn, nI_len, nI_ltn, ngI_le, ngI_lt, nng, sm10, sm8, shr_n, shl_n, and_1, fa_or, leT, leF, ltT, ltF, eqT, eqF, g1, c_place hq, g2.1, c_has g2.2.1 hq]
          cases (dayK K).1.testBit q <;> rfl
        · simp (disch := omega) only [fX6_field, f2, nm_q, bd1_some, bd2_some, bd3_some, bd4_some, bd5_some, bd6_some, bd7_some, bd8_some, bd9_some, bd10_some, bd11_some, bd1_ite, ↓reduceIte, gd_nI, gb_nI, gb_ite, li, liL, nI_add, nI_1, pk_sub, pk_mul, pk_div, nI_clamp, nI_eq, nI_leI, nI_ltI, nI_eqn, nI_neq, nI_nn, nI_len, nI_ltn, ngI_le, ngI_lt, nng, sm10, sm8, shr_n, shl_n, and_1, fa_or, leT, leF, ltT, ltF, eqT, eqF, h3, k1, m_wall k2.1.1 hq, flag_b]
    · refine ⟨-nI 1, da, now, landed, landedIn, stepped, ?_, ?_, hR0⟩
      · rw [fX5_field, f1, bd1_some, if_neg (show ¬ nI 1 = 0 from n10)]
        exact rgA _ _ h1
      · simp (disch := omega) only [fX6_field, f2, nm_q, bd1_some, bd2_some, bd3_some, bd4_some, bd5_some, bd6_some, bd7_some, bd8_some, bd9_some, bd10_some, bd11_some, bd1_ite, ↓reduceIte, gd_nI, gb_nI, gb_ite, li, liL, nI_add, nI_1, pk_sub, pk_mul, pk_div, nI_clamp, nI_eq, nI_leI, nI_ltI, nI_eqn, nI_neq, nI_nn, nI_len, nI_ltn, ngI_le, ngI_lt, nng, sm10, sm8, shr_n, shl_n, and_1, fa_or, leT, leF, ltT, ltF, eqT, eqF, h2]
  · refine ⟨-nI 1, da, now, landed, landedIn, stepped, ?_, ?_, hR0⟩
    · simp (disch := omega) only [fX5_field, f1, nm_q, bd1_some, bd2_some, bd3_some, bd4_some, bd5_some, bd6_some, bd7_some, bd8_some, bd9_some, bd10_some, bd11_some, bd1_ite, ↓reduceIte, gd_nI, gb_nI, gb_ite, li, liL, nI_add, nI_1, pk_sub, pk_mul, pk_div, nI_clamp, nI_eq, nI_leI, nI_ltI, nI_eqn, nI_neq, nI_nn, nI_len, nI_ltn, ngI_le, ngI_lt, nng, sm10, sm8, shr_n, shl_n, and_1, fa_or, leT, leF, ltT, ltF, eqT, eqF]
    · simp (disch := omega) only [fX6_field, f2, nm_q, bd1_some, bd2_some, bd3_some, bd4_some, bd5_some, bd6_some, bd7_some, bd8_some, bd9_some, bd10_some, bd11_some, bd1_ite, ↓reduceIte, gd_nI, gb_nI, gb_ite, li, liL, nI_add, nI_1, pk_sub, pk_mul, pk_div, nI_clamp, nI_eq, nI_leI, nI_ltI, nI_eqn, nI_neq, nI_nn, nI_len, nI_ltn, ngI_le, ngI_lt, nng, sm10, sm8, shr_n, shl_n, and_1, fa_or, leT, leF, ltT, ltF, eqT, eqF]
theorem ev_sum (v : VT) (rd : RT) (dr : CT) (nw : CT) (tr : CT) (da : DT) (i0 : CT) (i1 : CT) (s0 : ST) (s1 : ST) (s2 : ST) (s3 : ST) (st : AI) (now : AI) (isKept : AI) (hearers : Int32) (draft : AI) (dHearers : Int32) (dWalls : Int32) (toldWinds : Int32) (tape : AI) (taped : Int32) (pos : Int32) (frm : Int32) (sort : Int32) (value : Int32) (fault : Int32) (wrongAt : Int32) (landed : AI) (landedIn : AI) (stepped : AI) (isThere : AI) (isAt : AI) (isNext : AI) (landSum : Int64) (heardSum : Int64) (allWays : Int64) (ways : AI) (drawn : AI) (lanes : AI) (sizes : AI) (cells : AI) (torn : Int32) (before : AI) (hR : Rel v rd nw i0 i1 s0 s1 s2 s3 st isKept hearers tape taped fault lanes sizes cells torn) (p1 : Int32) : ∃ (res : Int32) (da_x : DT) (now_x : AI) (landed_x : AI) (landedIn_x : AI) (stepped_x : AI), fX5_sum p1 v nw da = some (res, da_x) ∧ fX6_sum p1 st now hearers landed landedIn stepped = some (res, now_x, landed_x, landedIn_x, stepped_x) ∧ (Rel v rd nw i0 i1 s0 s1 s2 s3 st isKept hearers tape taped fault lanes sizes cells torn) := by
  have hR0 := hR
  obtain ⟨⟨K, hK, hc, hm⟩, r0, r1, rt, rf, q0, q1, q2, q3, rl⟩ := hR
  have hm0 := RCm0 hm
  have hN := WF_N hK
  have hH := WF_H hK
  have hp := WF_Hp hK
  rcases in_rg p1 0 3 (by omega) (by omega) with ⟨j, h1, h2, rfl, h3⟩ | ⟨h1, h2⟩
  · obtain ⟨d', g1, g2⟩ := c_day da hK hc
    obtain ⟨n', la', lh', ls', k1, k2⟩ := m_asIs now landed landedIn stepped hK hm
    obtain ⟨F, hF⟩ : ∃ F, F = 4096 := ⟨_, rfl⟩
    have hj : j = 0 ∨ j = 1 ∨ j = 2 ∨ j = 3 := by omega
    have hL := fun C => m_sumL k2 hN C F (by omega)
    rcases hj with rfl | rfl | rfl | rfl
    · refine ⟨nI (hrd K), d', n', la', lh', ls', ?_, ?_, hR0⟩
      · simp (disch := omega) only [fX5_sum, nm_q, bd1_some, bd2_some, bd3_some, bd4_some, bd5_some, bd6_some, bd7_some, bd8_some, bd9_some, bd10_some, bd11_some, bd1_ite, ↓reduceIte, gd_nI, gb_nI, gb_ite, li, liL, nI_add, nI_1, pk_sub, pk_mul, pk_div, nI_clamp, nI_eq, nI_leI, nI_ltI, nI_eqn, nI_neq, nI_nn, nI_len, nI_ltn, ngI_le, ngI_lt, nng, sm10, sm8, shr_n, shl_n, and_1, fa_or, leT, leF, ltT, ltF, eqT, eqF, g1, c_heard g2 hc hN hH hp]
      · rw [fX6_sum, ← hF]
        simp only [k1, bd4_some, hL]
        simp (disch := omega) only [nm_q, bd1_some, bd2_some, bd3_some, bd4_some, bd5_some, bd6_some, bd7_some, bd8_some, bd9_some, bd10_some, bd11_some, bd1_ite, ↓reduceIte, gd_nI, gb_nI, gb_ite, li, liL, nI_add, nI_1, pk_sub, pk_mul, pk_div, nI_clamp, nI_eq, nI_leI, nI_ltI, nI_eqn, nI_neq, nI_nn, nI_len, nI_ltn, ngI_le, ngI_lt, nng, sm10, sm8, shr_n, shl_n, and_1, fa_or, leT, leF, ltT, ltF, eqT, eqF, h3, m_heard k2 hm0.2.2.2.2.1 hN hH hp]
    · refine ⟨nI (pcnt (dayK K).1), d', n', la', lh', ls', ?_, ?_, hR0⟩
      · simp (disch := omega) only [fX5_sum, nm_q, bd1_some, bd2_some, bd3_some, bd4_some, bd5_some, bd6_some, bd7_some, bd8_some, bd9_some, bd10_some, bd11_some, bd1_ite, ↓reduceIte, gd_nI, gb_nI, gb_ite, li, liL, nI_add, nI_1, pk_sub, pk_mul, pk_div, nI_clamp, nI_eq, nI_leI, nI_ltI, nI_eqn, nI_neq, nI_nn, nI_len, nI_ltn, ngI_le, ngI_lt, nng, sm10, sm8, shr_n, shl_n, and_1, fa_or, leT, leF, ltT, ltF, eqT, eqF, g1, g2.1, c_pop g2.2.1]
      · rw [fX6_sum, ← hF]
        simp only [k1, bd4_some, hL]
        simp (disch := omega) only [nm_q, bd1_some, bd2_some, bd3_some, bd4_some, bd5_some, bd6_some, bd7_some, bd8_some, bd9_some, bd10_some, bd11_some, bd1_ite, ↓reduceIte, gd_nI, gb_nI, gb_ite, li, liL, nI_add, nI_1, pk_sub, pk_mul, pk_div, nI_clamp, nI_eq, nI_leI, nI_ltI, nI_eqn, nI_neq, nI_nn, nI_len, nI_ltn, ngI_le, ngI_lt, nng, sm10, sm8, shr_n, shl_n, and_1, fa_or, leT, leF, ltT, ltF, eqT, eqF, h3, m_walls k2.1.1]
    · refine ⟨nI (stpS K), d', n', la', lh', ls', ?_, ?_, hR0⟩
      · simp (disch := omega) only [fX5_sum, nm_q, bd1_some, bd2_some, bd3_some, bd4_some, bd5_some, bd6_some, bd7_some, bd8_some, bd9_some, bd10_some, bd11_some, bd1_ite, ↓reduceIte, gd_nI, gb_nI, gb_ite, li, liL, nI_add, nI_1, pk_sub, pk_mul, pk_div, nI_clamp, nI_eq, nI_leI, nI_ltI, nI_eqn, nI_neq, nI_nn, nI_len, nI_ltn, ngI_le, ngI_lt, nng, sm10, sm8, shr_n, shl_n, and_1, fa_or, leT, leF, ltT, ltF, eqT, eqF, g1, c_steps g2 hN]
      · rw [fX6_sum, ← hF]
        simp only [k1, bd4_some, hL]
        simp (disch := omega) only [nm_q, bd1_some, bd2_some, bd3_some, bd4_some, bd5_some, bd6_some, bd7_some, bd8_some, bd9_some, bd10_some, bd11_some, bd1_ite, ↓reduceIte, gd_nI, gb_nI, gb_ite, li, liL, nI_add, nI_1, pk_sub, pk_mul, pk_div, nI_clamp, nI_eq, nI_leI, nI_ltI, nI_eqn, nI_neq, nI_nn, nI_len, nI_ltn, ngI_le, ngI_lt, nng, sm10, sm8, shr_n, shl_n, and_1, fa_or, leT, leF, ltT, ltF, eqT, eqF, h3]
    · refine ⟨nI (hrsS K), d', n', la', lh', ls', ?_, ?_, hR0⟩
      · simp (disch := omega) only [fX5_sum, nm_q, bd1_some, bd2_some, bd3_some, bd4_some, bd5_some, bd6_some, bd7_some, bd8_some, bd9_some, bd10_some, bd11_some, bd1_ite, ↓reduceIte, gd_nI, gb_nI, gb_ite, li, liL, nI_add, nI_1, pk_sub, pk_mul, pk_div, nI_clamp, nI_eq, nI_leI, nI_ltI, nI_eqn, nI_neq, nI_nn, nI_len, nI_ltn, ngI_le, ngI_lt, nng, sm10, sm8, shr_n, shl_n, and_1, fa_or, leT, leF, ltT, ltF, eqT, eqF, g1, c_hours g2 hN]
      · rw [fX6_sum, ← hF]
        simp only [k1, bd4_some, hL]
        simp (disch := omega) only [nm_q, bd1_some, bd2_some, bd3_some, bd4_some, bd5_some, bd6_some, bd7_some, bd8_some, bd9_some, bd10_some, bd11_some, bd1_ite, ↓reduceIte, gd_nI, gb_nI, gb_ite, li, liL, nI_add, nI_1, pk_sub, pk_mul, pk_div, nI_clamp, nI_eq, nI_leI, nI_ltI, nI_eqn, nI_neq, nI_nn, nI_len, nI_ltn, ngI_le, ngI_lt, nng, sm10, sm8, shr_n, shl_n, and_1, fa_or, leT, leF, ltT, ltF, eqT, eqF, h3]
  · refine ⟨-nI 1, da, now, landed, landedIn, stepped, ?_, ?_, hR0⟩
    · exact rgA _ _ h1
    · obtain ⟨F, hF⟩ : ∃ F, F = 4096 := ⟨_, rfl⟩
      rw [fX6_sum, ← hF]
      simp (disch := omega) only [nm_q, bd1_some, bd2_some, bd3_some, bd4_some, bd5_some, bd6_some, bd7_some, bd8_some, bd9_some, bd10_some, bd11_some, bd1_ite, ↓reduceIte, gd_nI, gb_nI, gb_ite, li, liL, nI_add, nI_1, pk_sub, pk_mul, pk_div, nI_clamp, nI_eq, nI_leI, nI_ltI, nI_eqn, nI_neq, nI_nn, nI_len, nI_ltn, ngI_le, ngI_lt, nng, sm10, sm8, shr_n, shl_n, and_1, fa_or, leT, leF, ltT, ltF, eqT, eqF, h2]
/-- most: the class's pair and the reference's -/
def mst (K : KT) (n : Nat) (s t : Int32 × Int32 × Int32) : Prop := s.1 = nI n ∧ t.1 = nI n ∧ (s.2 = (-nI 4, -nI 4) ∧ t.2 = (-nI 4, -nI 1) ∨ ∃ m q, m ≤ 10 ∧ q < 64 ∧ s.2 = (nI m, nI (cell q)) ∧ t.2 = (nI (cell q), nI m))
theorem most_lk {K : KT} {nw : CT} {d' : DT} {st n' la' lh' ls' : AI} (hK : WFk K) (hc : RCc K nw) (hWB : WB (kW K) st) (g2 : RDy K d') (k2 : RMy K n' la' lh' ls') (A : Int32 → Int32 → Int32 → Option (Int32 × DT)) (B : Int32 → Int32 → Int32 → Option (Int32 × AI × AI × AI × AI)) (P : Option (Int32 × DT) → Option (Int32 × AI × AI × AI × AI) → Prop) (hE : ∀ s t, mst K 64 s t → P (A s.1 s.2.1 s.2.2) (B t.1 t.2.1 t.2.2)) (F : Nat) (hF : 64 < F) : P (fX5_most_L31 nw d' A F 0 (-4) (-4)) (fX6_most_L21 st n' la' B F 0 (-4) (-1)) := by
  have hN := WF_N hK
  have hW := (lN_of hc.1).1
  refine lock (fun n (s : Int32 × Int32 × Int32) => fX5_most_L31 nw d' A n s.1 s.2.1 s.2.2) (fun n (s : Int32 × Int32 × Int32) => fX6_most_L21 st n' la' B n s.1 s.2.1 s.2.2) (mst K) P 64 ?_ ?_ 64 0 F F (0, -4, -4) (0, -4, -1) (by omega) (by omega) (by omega) ⟨rfl, rfl, Or.inl ⟨rfl, rfl⟩⟩
  · rintro i ⟨a, b, c⟩ ⟨a', b', c'⟩ n m hi ⟨e1, e2, e3⟩ ih
    simp only at e1 e2 e3 ⊢
    subst e1 e2
    have hb := atB_lt (K := K) i hN
    have hct : ct (fun k => (atB K i).testBit k) 10 ≤ 10 := ct_le _ _
    rw [fX5_most_L31, fX6_most_L21]
    simp (disch := omega) only [nm_q, bd1_some, bd2_some, bd3_some, bd4_some, bd5_some, bd6_some, bd7_some, bd8_some, bd9_some, bd10_some, bd11_some, bd1_ite, ↓reduceIte, gd_nI, gb_nI, gb_ite, li, liL, nI_add, nI_1, pk_sub, pk_mul, pk_div, nI_clamp, nI_eq, nI_leI, nI_ltI, nI_eqn, nI_neq, nI_nn, nI_len, nI_ltn, ngI_le, ngI_lt, nng, sm10, sm8, shr_n, shl_n, and_1, fa_or, leT, leF, ltT, ltF, eqT, eqF, c_landed g2 hN hi, c_bits (atB K i) (by omega), hW, c_has (WF_W hK) hi, m_cell hi, m_ahead hWB hi, m_landed k2 hN hi, m_bits, c_cell hi]
    cases ew : (kW K).testBit i with
    | true =>
      rw [tt_i, if_neg n10, if_neg n10]
      rcases e3 with ⟨e3, e4⟩ | ⟨m', q, hm', hq, e3, e4⟩
      · obtain ⟨rfl, rfl⟩ := Prod.mk.inj e3
        obtain ⟨rfl, rfl⟩ := Prod.mk.inj e4
        rw [if_pos (by decide), if_pos (by decide)]
        exact ih (nI (i + 1), _, _) (nI (i + 1), _, _) ⟨rfl, rfl, Or.inl ⟨rfl, rfl⟩⟩
      · obtain ⟨rfl, rfl⟩ := Prod.mk.inj e3
        obtain ⟨rfl, rfl⟩ := Prod.mk.inj e4
        simp (disch := omega) only [nm_q, bd1_some, bd2_some, bd3_some, bd4_some, bd5_some, bd6_some, bd7_some, bd8_some, bd9_some, bd10_some, bd11_some, bd1_ite, ↓reduceIte, gd_nI, gb_nI, gb_ite, li, liL, nI_add, nI_1, pk_sub, pk_mul, pk_div, nI_clamp, nI_eq, nI_leI, nI_ltI, nI_eqn, nI_neq, nI_nn, nI_len, nI_ltn, ngI_le, ngI_lt, nng, sm10, sm8, shr_n, shl_n, and_1, fa_or, leT, leF, ltT, ltF, eqT, eqF]
        exact ih (nI (i + 1), _, _) (nI (i + 1), _, _) ⟨rfl, rfl, Or.inr ⟨m', q, hm', hq, rfl, rfl⟩⟩
    | false =>
      simp (disch := omega) only [nm_q, bd1_some, bd2_some, bd3_some, bd4_some, bd5_some, bd6_some, bd7_some, bd8_some, bd9_some, bd10_some, bd11_some, bd1_ite, ↓reduceIte, gd_nI, gb_nI, gb_ite, li, liL, nI_add, nI_1, pk_sub, pk_mul, pk_div, nI_clamp, nI_eq, nI_leI, nI_ltI, nI_eqn, nI_neq, nI_nn, nI_len, nI_ltn, ngI_le, ngI_lt, nng, sm10, sm8, shr_n, shl_n, and_1, fa_or, leT, leF, ltT, ltF, eqT, eqF, ff_i]
      rcases e3 with ⟨e3, e4⟩ | ⟨m', q, hm', hq, e3, e4⟩
      · obtain ⟨rfl, rfl⟩ := Prod.mk.inj e3
        obtain ⟨rfl, rfl⟩ := Prod.mk.inj e4
        simp (disch := omega) only [nm_q, bd1_some, bd2_some, bd3_some, bd4_some, bd5_some, bd6_some, bd7_some, bd8_some, bd9_some, bd10_some, bd11_some, bd1_ite, ↓reduceIte, gd_nI, gb_nI, gb_ite, li, liL, nI_add, nI_1, pk_sub, pk_mul, pk_div, nI_clamp, nI_eq, nI_leI, nI_ltI, nI_eqn, nI_neq, nI_nn, nI_len, nI_ltn, ngI_le, ngI_lt, nng, sm10, sm8, shr_n, shl_n, and_1, fa_or, leT, leF, ltT, ltF, eqT, eqF]
        exact ih (nI (i + 1), _, _) (nI (i + 1), _, _) ⟨rfl, rfl, Or.inr ⟨_, i, hct, hi, rfl, rfl⟩⟩
      · obtain ⟨rfl, rfl⟩ := Prod.mk.inj e3
        obtain ⟨rfl, rfl⟩ := Prod.mk.inj e4
        by_cases cm : ct (fun k => (atB K i).testBit k) 10 ≤ m'
        · simp (disch := omega) only [nm_q, bd1_some, bd2_some, bd3_some, bd4_some, bd5_some, bd6_some, bd7_some, bd8_some, bd9_some, bd10_some, bd11_some, bd1_ite, ↓reduceIte, gd_nI, gb_nI, gb_ite, li, liL, nI_add, nI_1, pk_sub, pk_mul, pk_div, nI_clamp, nI_eq, nI_leI, nI_ltI, nI_eqn, nI_neq, nI_nn, nI_len, nI_ltn, ngI_le, ngI_lt, nng, sm10, sm8, shr_n, shl_n, and_1, fa_or, leT, leF, ltT, ltF, eqT, eqF]
          exact ih (nI (i + 1), _, _) (nI (i + 1), _, _) ⟨rfl, rfl, Or.inr ⟨m', q, hm', hq, rfl, rfl⟩⟩
        · simp (disch := omega) only [nm_q, bd1_some, bd2_some, bd3_some, bd4_some, bd5_some, bd6_some, bd7_some, bd8_some, bd9_some, bd10_some, bd11_some, bd1_ite, ↓reduceIte, gd_nI, gb_nI, gb_ite, li, liL, nI_add, nI_1, pk_sub, pk_mul, pk_div, nI_clamp, nI_eq, nI_leI, nI_ltI, nI_eqn, nI_neq, nI_nn, nI_len, nI_ltn, ngI_le, ngI_lt, nng, sm10, sm8, shr_n, shl_n, and_1, fa_or, leT, leF, ltT, ltF, eqT, eqF]
          exact ih (nI (i + 1), _, _) (nI (i + 1), _, _) ⟨rfl, rfl, Or.inr ⟨_, i, hct, hi, rfl, rfl⟩⟩
  · rintro ⟨a, b, c⟩ ⟨a', b', c'⟩ n m h
    obtain ⟨e1, e2, e3⟩ := id h
    simp only at e1 e2 ⊢
    subst e1 e2
    rw [fX5_most_L31, fX6_most_L21]
    simp (disch := omega) only [nm_q, bd1_some, bd2_some, bd3_some, bd4_some, bd5_some, bd6_some, bd7_some, bd8_some, bd9_some, bd10_some, bd11_some, bd1_ite, ↓reduceIte, gd_nI, gb_nI, gb_ite, li, liL, nI_add, nI_1, pk_sub, pk_mul, pk_div, nI_clamp, nI_eq, nI_leI, nI_ltI, nI_eqn, nI_neq, nI_nn, nI_len, nI_ltn, ngI_le, ngI_lt, nng, sm10, sm8, shr_n, shl_n, and_1, fa_or, leT, leF, ltT, ltF, eqT, eqF]
    exact hE _ _ h
theorem ev_most (v : VT) (rd : RT) (dr : CT) (nw : CT) (tr : CT) (da : DT) (i0 : CT) (i1 : CT) (s0 : ST) (s1 : ST) (s2 : ST) (s3 : ST) (st : AI) (now : AI) (isKept : AI) (hearers : Int32) (draft : AI) (dHearers : Int32) (dWalls : Int32) (toldWinds : Int32) (tape : AI) (taped : Int32) (pos : Int32) (frm : Int32) (sort : Int32) (value : Int32) (fault : Int32) (wrongAt : Int32) (landed : AI) (landedIn : AI) (stepped : AI) (isThere : AI) (isAt : AI) (isNext : AI) (landSum : Int64) (heardSum : Int64) (allWays : Int64) (ways : AI) (drawn : AI) (lanes : AI) (sizes : AI) (cells : AI) (torn : Int32) (before : AI) (hR : Rel v rd nw i0 i1 s0 s1 s2 s3 st isKept hearers tape taped fault lanes sizes cells torn) (p1 : Int32) : ∃ (res : Int32) (da_x : DT) (now_x : AI) (landed_x : AI) (landedIn_x : AI) (stepped_x : AI), fX5_most p1 v nw da = some (res, da_x) ∧ fX6_most p1 st now landed landedIn stepped = some (res, now_x, landed_x, landedIn_x, stepped_x) ∧ (Rel v rd nw i0 i1 s0 s1 s2 s3 st isKept hearers tape taped fault lanes sizes cells torn) := by
  have hR0 := hR
  obtain ⟨⟨K, hK, hc, hm⟩, r0, r1, rt, rf, q0, q1, q2, q3, rl⟩ := hR
  have hm0 := RCm0 hm
  have hWB : WB (kW K) st := fun x hx => hm0.1 x hx
  rcases isPt p1 with ⟨j, hj, rfl, h3⟩ | ⟨h1, h2⟩
  · obtain ⟨d', g1, g2⟩ := c_day da hK hc
    obtain ⟨n', la', lh', ls', k1, k2⟩ := m_asIs now landed landedIn stepped hK hm
    have key : ∃ r, fX5_most (nI j) v nw da = some (r, d') ∧ fX6_most (nI j) st now landed landedIn stepped = some (r, n', la', lh', ls') := by
      obtain ⟨F, hF⟩ : ∃ F, F = 4096 := ⟨_, rfl⟩
      rw [fX5_most, if_neg (nI_pos (show j < 2 ^ 31 by omega)), if_pos (show nI j ≤ 1 from nI_le (b := 1) (by omega) (by omega)), g1, bd1_some, fX6_most, h3, bd1_some, if_neg (show ¬ nI 1 = 0 from n10), k1, bd4_some, ← hF]
      refine most_lk hK hc hWB g2 k2 _ _ (fun x y => ∃ r, x = some (r, d') ∧ y = some (r, n', la', lh', ls')) ?_ F (by omega)
      rintro ⟨a, b, c⟩ ⟨a', b', c'⟩ ⟨e1, e2, e3⟩
      simp only at e1 e2 e3 ⊢
      rcases e3 with ⟨e3, e4⟩ | ⟨m', q, hm', hq, e3, e4⟩
      · obtain ⟨rfl, rfl⟩ := Prod.mk.inj e3
        obtain ⟨rfl, rfl⟩ := Prod.mk.inj e4
        refine ⟨-nI 4, ?_, ?_⟩
        · rw [ite_self]
        · exact if_pos rfl
      · obtain ⟨rfl, rfl⟩ := Prod.mk.inj e3
        obtain ⟨rfl, rfl⟩ := Prod.mk.inj e4
        have hq2 := cell_lt hq
        refine ⟨if j = 0 then nI (cell q) else nI m', ?_, ?_⟩
        · by_cases c0 : j = 0
          · simp (disch := omega) only [nm_q, bd1_some, bd2_some, bd3_some, bd4_some, bd5_some, bd6_some, bd7_some, bd8_some, bd9_some, bd10_some, bd11_some, bd1_ite, ↓reduceIte, gd_nI, gb_nI, gb_ite, li, liL, nI_add, nI_1, pk_sub, pk_mul, pk_div, nI_clamp, nI_eq, nI_leI, nI_ltI, nI_eqn, nI_neq, nI_nn, nI_len, nI_ltn, ngI_le, ngI_lt, nng, sm10, sm8, shr_n, shl_n, and_1, fa_or, leT, leF, ltT, ltF, eqT, eqF]
          · simp (disch := omega) only [nm_q, bd1_some, bd2_some, bd3_some, bd4_some, bd5_some, bd6_some, bd7_some, bd8_some, bd9_some, bd10_some, bd11_some, bd1_ite, ↓reduceIte, gd_nI, gb_nI, gb_ite, li, liL, nI_add, nI_1, pk_sub, pk_mul, pk_div, nI_clamp, nI_eq, nI_leI, nI_ltI, nI_eqn, nI_neq, nI_nn, nI_len, nI_ltn, ngI_le, ngI_lt, nng, sm10, sm8, shr_n, shl_n, and_1, fa_or, leT, leF, ltT, ltF, eqT, eqF]
        · by_cases c0 : j = 0
          · simp (disch := omega) only [nm_q, bd1_some, bd2_some, bd3_some, bd4_some, bd5_some, bd6_some, bd7_some, bd8_some, bd9_some, bd10_some, bd11_some, bd1_ite, ↓reduceIte, gd_nI, gb_nI, gb_ite, li, liL, nI_add, nI_1, pk_sub, pk_mul, pk_div, nI_clamp, nI_eq, nI_leI, nI_ltI, nI_eqn, nI_neq, nI_nn, nI_len, nI_ltn, ngI_le, ngI_lt, nng, sm10, sm8, shr_n, shl_n, and_1, fa_or, leT, leF, ltT, ltF, eqT, eqF]
          · simp (disch := omega) only [nm_q, bd1_some, bd2_some, bd3_some, bd4_some, bd5_some, bd6_some, bd7_some, bd8_some, bd9_some, bd10_some, bd11_some, bd1_ite, ↓reduceIte, gd_nI, gb_nI, gb_ite, li, liL, nI_add, nI_1, pk_sub, pk_mul, pk_div, nI_clamp, nI_eq, nI_leI, nI_ltI, nI_eqn, nI_neq, nI_nn, nI_len, nI_ltn, ngI_le, ngI_lt, nng, sm10, sm8, shr_n, shl_n, and_1, fa_or, leT, leF, ltT, ltF, eqT, eqF]
    obtain ⟨r, e1, e2⟩ := key
    exact ⟨r, d', n', la', lh', ls', e1, e2, hR0⟩
  · refine ⟨-nI 1, da, now, landed, landedIn, stepped, ?_, ?_, hR0⟩
    · exact rgA _ _ h1
    · rw [fX6_most, h2]; rfl
