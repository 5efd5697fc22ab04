-- HEARERS, WINDS, SAYINGS, what was SEEN, IMAGES
def setHp (K : KT) (h q : Nat) : KT := (K.1, K.2.1, K.2.2.1, K.2.2.2.1, K.2.2.2.2.1, va_up (kHp K) h q, K.2.2.2.2.2.2)
theorem ev_stand (v : VT) (rd : RT) (dr : CT) (nw : CT) (tr : CT) (da : DT) (i0 : CT) (i1 : CT) (s0 : ST) (s1 : ST) (s2 : ST) (s3 : ST) (st : AI) (now : AI) (isKept : AI) (hearers : Int32) (draft : AI) (dHearers : Int32) (dWalls : Int32) (toldWinds : Int32) (tape : AI) (taped : Int32) (pos : Int32) (frm : Int32) (sort : Int32) (value : Int32) (fault : Int32) (wrongAt : Int32) (landed : AI) (landedIn : AI) (stepped : AI) (isThere : AI) (isAt : AI) (isNext : AI) (landSum : Int64) (heardSum : Int64) (allWays : Int64) (ways : AI) (drawn : AI) (lanes : AI) (sizes : AI) (cells : AI) (torn : Int32) (before : AI) (hR : Rel v rd nw i0 i1 s0 s1 s2 s3 st isKept hearers tape taped fault lanes sizes cells torn) (p1 : Int32) (p2 : Int32) : ∃ (res : Int32) (nw_x : CT) (st_x : AI), fX5_stand p1 p2 v nw = some (res, nw_x) ∧ fX6_stand p1 p2 st hearers = some (res, st_x) ∧ (Rel v rd nw_x i0 i1 s0 s1 s2 s3 st_x isKept hearers tape taped fault lanes sizes cells torn) := by
  have hR0 := hR
  obtain ⟨⟨K, hK, hc, hm⟩, r0, r1, rt, rf, q0, q1, q2, q3, rl⟩ := hR
  have hm0 := RCm0 hm
  have hH := WF_H hK
  have hN := WF_N hK
  have hS := WF_S hK
  rcases isHear hH hc.2.2.2.2.1 hm0.2.2.2.2.1 p1 with ⟨s, hs, rfl, f1, f2⟩ | ⟨f1, f2⟩
  · rcases isC p2 with ⟨q, hq, rfl, g1, g2⟩ | ⟨g1, g2⟩
    · have a1 := hc.2.2.2.2.2.1 s hs
      have a2 := hm0.2.2.2.2.2.1 s hs
      refine ⟨nI (cell (kHp K s)), cAt' nw (upd (cAt nw) s (nI (cell q))), upd st (44 + s) (nI (cell q)), ?_, ?_, ⟨setHp K s q, ?_, ?_, ?_⟩, RI_cong rfl (upd61 _ (by omega)) r0, RI_cong rfl (upd61 _ (by omega)) r1, rt, rf, q0, q1, q2, q3, rl⟩
      · simp (disch := omega) only [fX5_stand, f1, nm_q, bd1_some, bd2_some, bd3_some, bd4_some, bd5_some, bd6_some, bd7_some, bd8_some, bd9_some, bd10_some, bd11_some, bd1_ite, ↓reduceIte, gd_nI, gb_nI, gb_ite, li, liL, nI_add, nI_1, pk_sub, pk_mul, pk_div, nI_clamp, nI_eq, nI_leI, nI_ltI, nI_eqn, nI_neq, nI_nn, nI_len, nI_ltn, ngI_le, ngI_lt, nng, sm10, sm8, shr_n, shl_n, and_1, fa_or, leT, leF, ltT, ltF, eqT, eqF, g1, a1]
      · simp (disch := omega) only [fX6_stand, f2, nm_q, bd1_some, bd2_some, bd3_some, bd4_some, bd5_some, bd6_some, bd7_some, bd8_some, bd9_some, bd10_some, bd11_some, bd1_ite, ↓reduceIte, gd_nI, gb_nI, gb_ite, li, liL, nI_add, nI_1, pk_sub, pk_mul, pk_div, nI_clamp, nI_eq, nI_leI, nI_ltI, nI_eqn, nI_neq, nI_nn, nI_len, nI_ltn, ngI_le, ngI_lt, nng, sm10, sm8, shr_n, shl_n, and_1, fa_or, leT, leF, ltT, ltF, eqT, eqF, g2, m_becomes, a2]
      · obtain ⟨b1, b2, b3, b4, b5, b6, b7, b8⟩ := hK
        refine ⟨b1, b2, b3, b4, b5, b6, fun i hi => ?_, b8⟩
        show va_up (kHp K) s q i < 64
        by_cases c : i = s
        · subst c; rw [up_s]; exact hq
        · rw [up_n _ _ c]; exact b7 i hi
      · obtain ⟨b1, b2, b3, b4, b5, b6, b7⟩ := hc
        refine ⟨b1, b2, b3, b4, b5, fun i hi => ?_, b7⟩
        show upd (cAt nw) s (nI (cell q)) i = nI (cell (va_up (kHp K) s q i))
        by_cases c : i = s
        · subst c; rw [up_s, pk_us]
        · rw [up_n _ _ c, pk_un c]; exact b6 i hi
      · obtain ⟨b1, b2, b3, b4, b5, b6, b7, b8, b9⟩ := hm0
        unfold RCm
        simp only [Nat.zero_add]
        refine ⟨fun y hy => ?_, fun y hy => ?_, ?_, fun u hu j hj => ?_, b5, fun y hy => ?_, ?_, fun y hy => ?_, fun y hy => ?_⟩
        · rw [pk_un (by omega)]; exact b1 y hy
        · rw [pk_un (by omega)]; exact b2 y hy
        · rw [pk_un (by omega)]; exact b3
        · have hu2 : u < kN K := hu
          rw [pk_un (by omega)]; exact b4 u hu j hj
        · show _ = nI (cell (va_up (kHp K) s q y))
          by_cases c : y = s
          · subst c; rw [up_s, pk_us]
          · rw [up_n _ _ c, pk_un (by omega)]; exact b6 y hy
        · rw [pk_un (by omega)]; exact b7
        · rw [pk_un (by omega)]; exact b8 y hy
        · rw [pk_un (by omega)]; exact b9 y hy
    · refine ⟨-nI 1, nw, st, ?_, ?_, hR0⟩
      · simp (disch := omega) only [fX5_stand, f1, nm_q, bd1_some, bd2_some, bd3_some, bd4_some, bd5_some, bd6_some, bd7_some, bd8_some, bd9_some, bd10_some, bd11_some, bd1_ite, ↓reduceIte, gd_nI, gb_nI, gb_ite, li, liL, nI_add, nI_1, pk_sub, pk_mul, pk_div, nI_clamp, nI_eq, nI_leI, nI_ltI, nI_eqn, nI_neq, nI_nn, nI_len, nI_ltn, ngI_le, ngI_lt, nng, sm10, sm8, shr_n, shl_n, and_1, fa_or, leT, leF, ltT, ltF, eqT, eqF, g1]
      · simp (disch := omega) only [fX6_stand, f2, nm_q, bd1_some, bd2_some, bd3_some, bd4_some, bd5_some, bd6_some, bd7_some, bd8_some, bd9_some, bd10_some, bd11_some, bd1_ite, ↓reduceIte, gd_nI, gb_nI, gb_ite, li, liL, nI_add, nI_1, pk_sub, pk_mul, pk_div, nI_clamp, nI_eq, nI_leI, nI_ltI, nI_eqn, nI_neq, nI_nn, nI_len, nI_ltn, ngI_le, ngI_lt, nng, sm10, sm8, shr_n, shl_n, and_1, fa_or, leT, leF, ltT, ltF, eqT, eqF, g2]
  · refine ⟨-nI 1, nw, st, ?_, ?_, hR0⟩
    · simp (disch := omega) only [fX5_stand, f1, nm_q, bd1_some, bd2_some, bd3_some, bd4_some, bd5_some, bd6_some, bd7_some, bd8_some, bd9_some, bd10_some, bd11_some, bd1_ite, ↓reduceIte, gd_nI, gb_nI, gb_ite, li, liL, nI_add, nI_1, pk_sub, pk_mul, pk_div, nI_clamp, nI_eq, nI_leI, nI_ltI, nI_eqn, nI_neq, nI_nn, nI_len, nI_ltn, ngI_le, ngI_lt, nng, sm10, sm8, shr_n, shl_n, and_1, fa_or, leT, leF, ltT, ltF, eqT, eqF]
    · simp (disch := omega) only [fX6_stand, f2, nm_q, bd1_some, bd2_some, bd3_some, bd4_some, bd5_some, bd6_some, bd7_some, bd8_some, bd9_some, bd10_some, bd11_some, bd1_ite, ↓reduceIte, gd_nI, gb_nI, gb_ite, li, liL, nI_add, nI_1, pk_sub, pk_mul, pk_div, nI_clamp, nI_eq, nI_leI, nI_ltI, nI_eqn, nI_neq, nI_nn, nI_len, nI_ltn, ngI_le, ngI_lt, nng, sm10, sm8, shr_n, shl_n, and_1, fa_or, leT, leF, ltT, ltF, eqT, eqF]
theorem ev_blow (v : VT) (rd : RT) (dr : CT) (nw : CT) (tr : CT) (da : DT) (i0 : CT) (i1 : CT) (s0 : ST) (s1 : ST) (s2 : ST) (s3 : ST) (st : AI) (now : AI) (isKept : AI) (hearers : Int32) (draft : AI) (dHearers : Int32) (dWalls : Int32) (toldWinds : Int32) (tape : AI) (taped : Int32) (pos : Int32) (frm : Int32) (sort : Int32) (value : Int32) (fault : Int32) (wrongAt : Int32) (landed : AI) (landedIn : AI) (stepped : AI) (isThere : AI) (isAt : AI) (isNext : AI) (landSum : Int64) (heardSum : Int64) (allWays : Int64) (ways : AI) (drawn : AI) (lanes : AI) (sizes : AI) (cells : AI) (torn : Int32) (before : AI) (hR : Rel v rd nw i0 i1 s0 s1 s2 s3 st isKept hearers tape taped fault lanes sizes cells torn) (p1 : Int32) (p2 : Int32) : ∃ (res : Int32) (nw_x : CT) (st_x : AI), fX5_blow p1 p2 v nw = some (res, nw_x) ∧ fX6_blow p1 p2 st = some (res, st_x) ∧ (Rel v rd nw_x i0 i1 s0 s1 s2 s3 st_x isKept hearers tape taped fault lanes sizes cells torn) := by
  have hR0 := hR
  obtain ⟨⟨K, hK, hc, hm⟩, r0, r1, rt, rf, q0, q1, q2, q3, rl⟩ := hR
  have hm0 := RCm0 hm
  have hH := WF_H hK
  have hN := WF_N hK
  have hS := WF_S hK
  rcases c_fits 4 (by omega) p1 with ⟨s, h1, h2, rfl, f1, f2⟩ | ⟨f1, f2⟩
  · have hs : s ≤ 9 := h2
    have f2 : fX6_in (nI s).toInt64 (lN 0) (lN 9) = some (nI 1) := f2
    rcases c_fits 5 (by omega) p2 with ⟨w, h3, h4, rfl, g1, g2⟩ | ⟨g1, g2⟩
    · have hw : w ≤ 4 := h4
      have g2 : fX6_in (nI w).toInt64 (lN 0) (lN 4) = some (nI 1) := g2
      have a1 := hc.2.1 s (by omega)
      have a2 := hm0.2.1 s (by omega)
      refine ⟨nI (kWi K s), cWi' nw (upd (cWi nw) s (nI w)), upd st (8 + s) (nI w), ?_, ?_, ⟨setWi K (va_up (kWi K) s w), ?_, ?_, ?_⟩, RI_cong rfl (upd61 _ (by omega)) r0, RI_cong rfl (upd61 _ (by omega)) r1, rt, rf, q0, q1, q2, q3, rl⟩
      · simp (disch := omega) only [fX5_blow, f1, nm_q, bd1_some, bd2_some, bd3_some, bd4_some, bd5_some, bd6_some, bd7_some, bd8_some, bd9_some, bd10_some, bd11_some, bd1_ite, ↓reduceIte, gd_nI, gb_nI, gb_ite, li, liL, nI_add, nI_1, pk_sub, pk_mul, pk_div, nI_clamp, nI_eq, nI_leI, nI_ltI, nI_eqn, nI_neq, nI_nn, nI_len, nI_ltn, ngI_le, ngI_lt, nng, sm10, sm8, shr_n, shl_n, and_1, fa_or, leT, leF, ltT, ltF, eqT, eqF, g1, a1]
      · simp (disch := omega) only [fX6_blow, f2, nm_q, bd1_some, bd2_some, bd3_some, bd4_some, bd5_some, bd6_some, bd7_some, bd8_some, bd9_some, bd10_some, bd11_some, bd1_ite, ↓reduceIte, gd_nI, gb_nI, gb_ite, li, liL, nI_add, nI_1, pk_sub, pk_mul, pk_div, nI_clamp, nI_eq, nI_leI, nI_ltI, nI_eqn, nI_neq, nI_nn, nI_len, nI_ltn, ngI_le, ngI_lt, nng, sm10, sm8, shr_n, shl_n, and_1, fa_or, leT, leF, ltT, ltF, eqT, eqF, g2, m_becomes, a2]
      · obtain ⟨b1, b2, b3, b4⟩ := hK
        refine ⟨b1, b2, fun i hi => ?_, b4⟩
        show va_up (kWi K) s w i ≤ 4
        by_cases c : i = s
        · subst c; rw [up_s]; exact hw
        · rw [up_n _ _ c]; exact b3 i hi
      · obtain ⟨b1, b2, b3⟩ := hc
        refine ⟨b1, fun i hi => ?_, b3⟩
        show upd (cWi nw) s (nI w) i = nI (va_up (kWi K) s w i)
        by_cases c : i = s
        · subst c; rw [up_s, pk_us]
        · rw [up_n _ _ c, pk_un c]; exact b2 i hi
      · obtain ⟨b1, b2, b3, b4, b5, b6, b7, b8, b9⟩ := hm0
        unfold RCm
        simp only [Nat.zero_add]
        refine ⟨fun y hy => ?_, fun y hy => ?_, ?_, fun u hu j hj => ?_, b5, fun y hy => ?_, ?_, fun y hy => ?_, fun y hy => ?_⟩
        · rw [pk_un (by omega)]; exact b1 y hy
        · show _ = nI (va_up (kWi K) s w y)
          by_cases c : y = s
          · subst c; rw [up_s, pk_us]
          · rw [up_n _ _ c, pk_un (by omega)]; exact b2 y hy
        · rw [pk_un (by omega)]; exact b3
        · rw [pk_un (by omega)]; exact b4 u hu j hj
        · rw [pk_un (by omega)]; exact b6 y hy
        · rw [pk_un (by omega)]; exact b7
        · rw [pk_un (by omega)]; exact b8 y hy
        · rw [pk_un (by omega)]; exact b9 y hy
    · have g2 : fX6_in p2.toInt64 (lN 0) (lN 4) = some (nI 0) := g2
      refine ⟨-nI 1, nw, st, ?_, ?_, hR0⟩
      · simp (disch := omega) only [fX5_blow, f1, nm_q, bd1_some, bd2_some, bd3_some, bd4_some, bd5_some, bd6_some, bd7_some, bd8_some, bd9_some, bd10_some, bd11_some, bd1_ite, ↓reduceIte, gd_nI, gb_nI, gb_ite, li, liL, nI_add, nI_1, pk_sub, pk_mul, pk_div, nI_clamp, nI_eq, nI_leI, nI_ltI, nI_eqn, nI_neq, nI_nn, nI_len, nI_ltn, ngI_le, ngI_lt, nng, sm10, sm8, shr_n, shl_n, and_1, fa_or, leT, leF, ltT, ltF, eqT, eqF, g1]
      · simp (disch := omega) only [fX6_blow, f2, nm_q, bd1_some, bd2_some, bd3_some, bd4_some, bd5_some, bd6_some, bd7_some, bd8_some, bd9_some, bd10_some, bd11_some, bd1_ite, ↓reduceIte, gd_nI, gb_nI, gb_ite, li, liL, nI_add, nI_1, pk_sub, pk_mul, pk_div, nI_clamp, nI_eq, nI_leI, nI_ltI, nI_eqn, nI_neq, nI_nn, nI_len, nI_ltn, ngI_le, ngI_lt, nng, sm10, sm8, shr_n, shl_n, and_1, fa_or, leT, leF, ltT, ltF, eqT, eqF, g2]
  · have f2 : fX6_in p1.toInt64 (lN 0) (lN 9) = some (nI 0) := f2
    refine ⟨-nI 1, nw, st, ?_, ?_, hR0⟩
    · simp (disch := omega) only [fX5_blow, f1, nm_q, bd1_some, bd2_some, bd3_some, bd4_some, bd5_some, bd6_some, bd7_some, bd8_some, bd9_some, bd10_some, bd11_some, bd1_ite, ↓reduceIte, gd_nI, gb_nI, gb_ite, li, liL, nI_add, nI_1, pk_sub, pk_mul, pk_div, nI_clamp, nI_eq, nI_leI, nI_ltI, nI_eqn, nI_neq, nI_nn, nI_len, nI_ltn, ngI_le, ngI_lt, nng, sm10, sm8, shr_n, shl_n, and_1, fa_or, leT, leF, ltT, ltF, eqT, eqF]
    · simp (disch := omega) only [fX6_blow, f2, nm_q, bd1_some, bd2_some, bd3_some, bd4_some, bd5_some, bd6_some, bd7_some, bd8_some, bd9_some, bd10_some, bd11_some, bd1_ite, ↓reduceIte, gd_nI, gb_nI, gb_ite, li, liL, nI_add, nI_1, pk_sub, pk_mul, pk_div, nI_clamp, nI_eq, nI_leI, nI_ltI, nI_eqn, nI_neq, nI_nn, nI_len, nI_ltn, ngI_le, ngI_lt, nng, sm10, sm8, shr_n, shl_n, and_1, fa_or, leT, leF, ltT, ltF, eqT, eqF]
/-- one SAYING more, a plain one -/
def plT (p w f : Nat) (k : Nat) : Nat := if k = 1 then p else if k = 2 then w else if k = 3 then f else 0
def addS (K : KT) (p w f : Nat) : KT := (K.1, K.2.1, kN K + 1, va_up (kT K) (kN K) (plT p w f), K.2.2.2.2)
theorem c_add {c : CT} {N : Nat} {p1 p2 p3 : Int32} (eSa : cSa c = nI N) (hN : N < 5) (f1 : fX3_fits (nI 1) p1 = some (nI 1)) (g1 : fX3_fits (nI 2) p2 = some (nI 1)) (k1 : fX3_fits (nI 3) p3 = some (nI 1)) : ∃ T' : Nat → AI, fX0_addPlain p1 p2 p3 c = some (nI N, (c.1, c.2.1, T', nI (N + 1), c.2.2.2.2)) ∧ (∀ k, k < 5 → T' N k = if k = 1 then p1 else if k = 2 then p2 else if k = 3 then p3 else nI 0) ∧ ∀ s, s ≠ N → T' s = cTo c s := by
  have eSa' : c.2.2.2.1 = nI N := eSa
  refine ⟨?_, ?_, ?_, ?_⟩
  rotate_left
  · simp (disch := omega) only [fX0_addPlain, nm_q, bd1_some, bd2_some, bd3_some, bd4_some, bd5_some, bd6_some, bd7_some, bd8_some, bd9_some, bd10_some, bd11_some, bd1_ite, ↓reduceIte, gd_nI, gb_nI, gb_ite, li, liL, nI_add, nI_1, pk_sub, pk_mul, pk_div, nI_clamp, nI_eq, nI_leI, nI_ltI, nI_eqn, nI_neq, nI_nn, nI_len, nI_ltn, ngI_le, ngI_lt, nng, sm10, sm8, shr_n, shl_n, and_1, fa_or, leT, leF, ltT, ltF, eqT, eqF, f1, g1, k1, cSa, cTo, cTo', cSa', eSa', Nat.add_sub_cancel]
    rfl
  · intro k hk
    simp only [up_s]
    have hk5 : k = 0 ∨ k = 1 ∨ k = 2 ∨ k = 3 ∨ k = 4 := by omega
    rcases hk5 with rfl | rfl | rfl | rfl | rfl <;> rfl
  · intro s hs
    simp only [up_n _ _ hs]
theorem say_both {K : KT} {c : CT} {st : AI} {h : Int32} (hK : WFk K) (hc : RCc K c) (hm : RCm K st 0 h) (p1 p2 p3 : Int32) : (∃ b, 0 < b ∧ b < 4 ∧ fX0_addPlain p1 p2 p3 c = some (-nI b, c) ∧ fX6_say p1 p2 p3 st = some (-nI b, st)) ∨ ∃ K' c' st', WFk K' ∧ RCc K' c' ∧ RCm K' st' 0 h ∧ (∀ j, 61 ≤ j → st' j = st j) ∧ kN K < 5 ∧ kH K' = kH K ∧ fX0_addPlain p1 p2 p3 c = some (nI (kN K), c') ∧ fX6_say p1 p2 p3 st = some (nI (kN K), st') := by
  have hm0 := RCm0 hm
  have hH := WF_H hK
  have hN := WF_N hK
  have hS := WF_S hK
  rcases can 1 (by omega) p1 with ⟨q, hq, rfl, f1, _⟩ | ⟨f1, _⟩
  · have hq2 : q < 64 := hq.2.1 rfl
    have f2 := (isC_y hq2).2
    rw [show tvk 1 q = cell q from rfl] at f1 ⊢
    rcases c_fits 2 (by omega) p2 with ⟨w, h1, h2, rfl, g1, g2⟩ | ⟨g1, g2⟩
    · have hw : w ≤ 3 := h2
      have g2 : fX6_in (nI w).toInt64 (lN 0) (lN 3) = some (nI 1) := g2
      rcases c_fits 3 (by omega) p3 with ⟨f, h3, h4, rfl, k1, k2⟩ | ⟨k1, k2⟩
      · have hf : f ≤ 9 := h4
        have hf1 : 1 ≤ f := h3
        have k2 : fX6_in (nI f).toInt64 (lN 1) (lN 9) = some (nI 1) := k2
        have e43 := hm0.2.2.1
        have eSa := hc.2.2.1
        by_cases cN : kN K < 5
        · obtain ⟨T', t1, t2, t3⟩ := c_add (c := c) eSa cN f1 g1 k1
          refine Or.inr ⟨addS K q w f, (c.1, c.2.1, T', nI (kN K + 1), c.2.2.2.2), upd (upd (upd (upd (upd (upd st (18 + 5 * kN K + 0) (nI 0)) (18 + 5 * kN K + 1) (nI (cell q))) (18 + 5 * kN K + 2) (nI w)) (18 + 5 * kN K + 3) (nI f)) (18 + 5 * kN K + 4) (nI 0)) 43 (nI (kN K + 1)), ?_, ?_, ?_, ?_, cN, rfl, ?_, ?_⟩
          · obtain ⟨b1, b2, b3, b4, b5, b6, b7, b8, b9⟩ := hK
            refine ⟨b1, b2, b3, (show kN K + 1 ≤ 5 by omega), fun s hs => ?_, b6, b7, b8, fun i hi => ⟨?_, (b9 i hi).2⟩⟩
            · show okT (va_up (kT K) (kN K) (plT q w f) s)
              by_cases d : s = kN K
              · rw [d, up_s]
                exact ⟨Nat.zero_le _, hq2, hw, hf1, hf, Nat.zero_le _⟩
              · rw [up_n _ _ d]
                have hs2 : s < kN K + 1 := hs
                exact b5 s (by omega)
            · show kSs K i < kN K + 1
              have := (b9 i hi).1
              omega
          · obtain ⟨b1, b2, b3, b4, b5⟩ := hc
            refine ⟨b1, b2, rfl, fun s hs k hk => ?_, b5⟩
            show T' s k = nI (tv (va_up (kT K) (kN K) (plT q w f) s) k)
            by_cases d : s = kN K
            · subst d
              rw [t2 k hk, up_s]
              have hk5 : k = 0 ∨ k = 1 ∨ k = 2 ∨ k = 3 ∨ k = 4 := by omega
              rcases hk5 with rfl | rfl | rfl | rfl | rfl <;> rfl
            · rw [up_n _ _ d, t3 s d]
              have hs2 : s < kN K + 1 := hs
              exact b4 s (by omega) k hk
          · obtain ⟨b1, b2, b3, b4, b5, b6, b7, b8, b9⟩ := hm0
            unfold RCm
            simp only [Nat.zero_add]
            refine ⟨fun y hy => ?_, fun y hy => ?_, ?_, fun u hu j hj => ?_, b5, fun y hy => ?_, ?_, fun y hy => ?_, fun y hy => ?_⟩
            · simp (disch := omega) only [pk_un]; exact b1 y hy
            · simp (disch := omega) only [pk_un]; exact b2 y hy
            · exact pk_us
            · have hu2 : u < kN K + 1 := hu
              show _ = nI (tv (va_up (kT K) (kN K) (plT q w f) u) j)
              rw [pk_un (by omega)]
              by_cases d : u = kN K
              · subst d
                rw [up_s]
                have hk5 : j = 0 ∨ j = 1 ∨ j = 2 ∨ j = 3 ∨ j = 4 := by omega
                rcases hk5 with rfl | rfl | rfl | rfl | rfl
                · simp (disch := omega) only [pk_un, pk_us]; rfl
                · simp (disch := omega) only [pk_un, pk_us]; rfl
                · simp (disch := omega) only [pk_un, pk_us]; rfl
                · simp (disch := omega) only [pk_un, pk_us]; rfl
                · simp (disch := omega) only [pk_un, pk_us]; rfl
              · rw [up_n _ _ d]
                simp (disch := omega) only [pk_un]
                exact b4 u (by omega) j hj
            · simp (disch := omega) only [pk_un]; exact b6 y hy
            · simp (disch := omega) only [pk_un]; exact b7
            · simp (disch := omega) only [pk_un]; exact b8 y hy
            · simp (disch := omega) only [pk_un]; exact b9 y hy
          · intro j hj
            simp (disch := omega) only [pk_un]
          · exact t1
          · simp (disch := omega) only [fX6_say, nm_q, bd1_some, bd2_some, bd3_some, bd4_some, bd5_some, bd6_some, bd7_some, bd8_some, bd9_some, bd10_some, bd11_some, bd1_ite, ↓reduceIte, gd_nI, gb_nI, gb_ite, li, liL, nI_add, nI_1, pk_sub, pk_mul, pk_div, nI_clamp, nI_eq, nI_leI, nI_ltI, nI_eqn, nI_neq, nI_nn, nI_len, nI_ltn, ngI_le, ngI_lt, nng, sm10, sm8, shr_n, shl_n, and_1, fa_or, leT, leF, ltT, ltF, eqT, eqF, f2, g2, k2, e43, pk_un, pk_us, Nat.add_sub_cancel]
        · obtain hN5 : kN K = 5 := by omega
          refine Or.inl ⟨3, by omega, by omega, ?_, ?_⟩
          · simp (disch := omega) only [fX0_addPlain, nm_q, bd1_some, bd2_some, bd3_some, bd4_some, bd5_some, bd6_some, bd7_some, bd8_some, bd9_some, bd10_some, bd11_some, bd1_ite, ↓reduceIte, gd_nI, gb_nI, gb_ite, li, liL, nI_add, nI_1, pk_sub, pk_mul, pk_div, nI_clamp, nI_eq, nI_leI, nI_ltI, nI_eqn, nI_neq, nI_nn, nI_len, nI_ltn, ngI_le, ngI_lt, nng, sm10, sm8, shr_n, shl_n, and_1, fa_or, leT, leF, ltT, ltF, eqT, eqF, f1, g1, k1, eSa]
          · simp (disch := omega) only [fX6_say, nm_q, bd1_some, bd2_some, bd3_some, bd4_some, bd5_some, bd6_some, bd7_some, bd8_some, bd9_some, bd10_some, bd11_some, bd1_ite, ↓reduceIte, gd_nI, gb_nI, gb_ite, li, liL, nI_add, nI_1, pk_sub, pk_mul, pk_div, nI_clamp, nI_eq, nI_leI, nI_ltI, nI_eqn, nI_neq, nI_nn, nI_len, nI_ltn, ngI_le, ngI_lt, nng, sm10, sm8, shr_n, shl_n, and_1, fa_or, leT, leF, ltT, ltF, eqT, eqF, f2, g2, k2, e43]
      · have k2 : fX6_in p3.toInt64 (lN 1) (lN 9) = some (nI 0) := k2
        refine Or.inl ⟨1, by omega, by omega, ?_, ?_⟩
        · simp (disch := omega) only [fX0_addPlain, nm_q, bd1_some, bd2_some, bd3_some, bd4_some, bd5_some, bd6_some, bd7_some, bd8_some, bd9_some, bd10_some, bd11_some, bd1_ite, ↓reduceIte, gd_nI, gb_nI, gb_ite, li, liL, nI_add, nI_1, pk_sub, pk_mul, pk_div, nI_clamp, nI_eq, nI_leI, nI_ltI, nI_eqn, nI_neq, nI_nn, nI_len, nI_ltn, ngI_le, ngI_lt, nng, sm10, sm8, shr_n, shl_n, and_1, fa_or, leT, leF, ltT, ltF, eqT, eqF, f1, g1, k1]
        · simp (disch := omega) only [fX6_say, nm_q, bd1_some, bd2_some, bd3_some, bd4_some, bd5_some, bd6_some, bd7_some, bd8_some, bd9_some, bd10_some, bd11_some, bd1_ite, ↓reduceIte, gd_nI, gb_nI, gb_ite, li, liL, nI_add, nI_1, pk_sub, pk_mul, pk_div, nI_clamp, nI_eq, nI_leI, nI_ltI, nI_eqn, nI_neq, nI_nn, nI_len, nI_ltn, ngI_le, ngI_lt, nng, sm10, sm8, shr_n, shl_n, and_1, fa_or, leT, leF, ltT, ltF, eqT, eqF, f2, g2, k2]
    · have g2 : fX6_in p2.toInt64 (lN 0) (lN 3) = some (nI 0) := g2
      refine Or.inl ⟨1, by omega, by omega, ?_, ?_⟩
      · simp (disch := omega) only [fX0_addPlain, nm_q, bd1_some, bd2_some, bd3_some, bd4_some, bd5_some, bd6_some, bd7_some, bd8_some, bd9_some, bd10_some, bd11_some, bd1_ite, ↓reduceIte, gd_nI, gb_nI, gb_ite, li, liL, nI_add, nI_1, pk_sub, pk_mul, pk_div, nI_clamp, nI_eq, nI_leI, nI_ltI, nI_eqn, nI_neq, nI_nn, nI_len, nI_ltn, ngI_le, ngI_lt, nng, sm10, sm8, shr_n, shl_n, and_1, fa_or, leT, leF, ltT, ltF, eqT, eqF, f1, g1]
      · simp (disch := omega) only [fX6_say, nm_q, bd1_some, bd2_some, bd3_some, bd4_some, bd5_some, bd6_some, bd7_some, bd8_some, bd9_some, bd10_some, bd11_some, bd1_ite, ↓reduceIte, gd_nI, gb_nI, gb_ite, li, liL, nI_add, nI_1, pk_sub, pk_mul, pk_div, nI_clamp, nI_eq, nI_leI, nI_ltI, nI_eqn, nI_neq, nI_nn, nI_len, nI_ltn, ngI_le, ngI_lt, nng, sm10, sm8, shr_n, shl_n, and_1, fa_or, leT, leF, ltT, ltF, eqT, eqF, f2, g2]
  · have f2 : fX6_isCell p1 = some (nI 0) := by
      rcases isC p1 with ⟨q, hq, rfl, a1, a2⟩ | ⟨a1, a2⟩
      · exfalso
        simp (disch := omega) only [fX3_fits, nm_q, bd1_some, bd2_some, bd3_some, bd4_some, bd5_some, bd6_some, bd7_some, bd8_some, bd9_some, bd10_some, bd11_some, bd1_ite, ↓reduceIte, gd_nI, gb_nI, gb_ite, li, liL, nI_add, nI_1, pk_sub, pk_mul, pk_div, nI_clamp, nI_eq, nI_leI, nI_ltI, nI_eqn, nI_neq, nI_nn, nI_len, nI_ltn, ngI_le, ngI_lt, nng, sm10, sm8, shr_n, shl_n, and_1, fa_or, leT, leF, ltT, ltF, eqT, eqF, a1] at f1
        exact absurd (Option.some.inj f1) n10
      · exact a2
    refine Or.inl ⟨1, by omega, by omega, ?_, ?_⟩
    · simp (disch := omega) only [fX0_addPlain, nm_q, bd1_some, bd2_some, bd3_some, bd4_some, bd5_some, bd6_some, bd7_some, bd8_some, bd9_some, bd10_some, bd11_some, bd1_ite, ↓reduceIte, gd_nI, gb_nI, gb_ite, li, liL, nI_add, nI_1, pk_sub, pk_mul, pk_div, nI_clamp, nI_eq, nI_leI, nI_ltI, nI_eqn, nI_neq, nI_nn, nI_len, nI_ltn, ngI_le, ngI_lt, nng, sm10, sm8, shr_n, shl_n, and_1, fa_or, leT, leF, ltT, ltF, eqT, eqF, f1]
    · simp (disch := omega) only [fX6_say, nm_q, bd1_some, bd2_some, bd3_some, bd4_some, bd5_some, bd6_some, bd7_some, bd8_some, bd9_some, bd10_some, bd11_some, bd1_ite, ↓reduceIte, gd_nI, gb_nI, gb_ite, li, liL, nI_add, nI_1, pk_sub, pk_mul, pk_div, nI_clamp, nI_eq, nI_leI, nI_ltI, nI_eqn, nI_neq, nI_nn, nI_len, nI_ltn, ngI_le, ngI_lt, nng, sm10, sm8, shr_n, shl_n, and_1, fa_or, leT, leF, ltT, ltF, eqT, eqF, f2]
theorem ev_say (v : VT) (rd : RT) (dr : CT) (nw : CT) (tr : CT) (da : DT) (i0 : CT) (i1 : CT) (s0 : ST) (s1 : ST) (s2 : ST) (s3 : ST) (st : AI) (now : AI) (isKept : AI) (hearers : Int32) (draft : AI) (dHearers : Int32) (dWalls : Int32) (toldWinds : Int32) (tape : AI) (taped : Int32) (pos : Int32) (frm : Int32) (sort : Int32) (value : Int32) (fault : Int32) (wrongAt : Int32) (landed : AI) (landedIn : AI) (stepped : AI) (isThere : AI) (isAt : AI) (isNext : AI) (landSum : Int64) (heardSum : Int64) (allWays : Int64) (ways : AI) (drawn : AI) (lanes : AI) (sizes : AI) (cells : AI) (torn : Int32) (before : AI) (hR : Rel v rd nw i0 i1 s0 s1 s2 s3 st isKept hearers tape taped fault lanes sizes cells torn) (p1 : Int32) (p2 : Int32) (p3 : Int32) : ∃ (res : Int32) (nw_x : CT) (st_x : AI), fX5_say p1 p2 p3 v nw = some (res, nw_x) ∧ fX6_say p1 p2 p3 st = some (res, st_x) ∧ (Rel v rd nw_x i0 i1 s0 s1 s2 s3 st_x isKept hearers tape taped fault lanes sizes cells torn) := by
  have hR0 := hR
  obtain ⟨⟨K, hK, hc, hm⟩, r0, r1, rt, rf, q0, q1, q2, q3, rl⟩ := hR
  rcases say_both hK hc hm p1 p2 p3 with ⟨b, _, _, f1, f2⟩ | ⟨K', c', st', k1, k2, k3, k4, _, _, f1, f2⟩
  · refine ⟨-nI b, nw, st, ?_, f2, hR0⟩
    rw [fX5_say, f1]; rfl
  · refine ⟨nI (kN K), c', st', ?_, f2, ⟨K', k1, k2, k3⟩, RI_cong rfl k4 r0, RI_cong rfl k4 r1, rt, rf, q0, q1, q2, q3, rl⟩
    rw [fX5_say, f1]; rfl
