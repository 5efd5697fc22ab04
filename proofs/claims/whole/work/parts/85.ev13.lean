-- froms, screen
theorem froms_lk {K : KT} {s : Nat} {st : AI} {h : Int32} (hK : WFk K) (hm : RCm K st 0 h) (hs : s < kN K) (A : Int32 → Int32 → Int32 → CT → DT → Option (Int32 × CT × DT)) (B : Int32 → Int32 → Int32 → AI → AI → AI → AI → Option (Int32 × AI × AI × AI × AI)) (P : Option (Int32 × CT × DT) → Option (Int32 × AI × AI × AI × AI) → Prop) (hE : ∀ a b c tr da now la lh ls, P (A a b c tr da) (B a b c now la lh ls)) (F : Nat) (hF : 64 < F) (tr : CT) (da : DT) (now la lh ls : AI) (hr : ∃ v', RCc (setT K s 1 v') tr) : P (fX5_froms_L42 (nI s) A F 0 (-4) 0 tr da) (fX6_froms_L26 st (nI s) B F 0 (-4) 0 now la lh ls) := by
  have hN := WF_N hK
  refine lock (fun n (t : Int32 × Int32 × Int32 × CT × DT) => fX5_froms_L42 (nI s) A n t.1 t.2.1 t.2.2.1 t.2.2.2.1 t.2.2.2.2) (fun n (t : Int32 × Int32 × Int32 × AI × AI × AI × AI) => fX6_froms_L26 st (nI s) B n t.1 t.2.1 t.2.2.1 t.2.2.2.1 t.2.2.2.2.1 t.2.2.2.2.2.1 t.2.2.2.2.2.2) (fun i x y => x.1 = nI i ∧ y.1 = nI i ∧ y.2.1 = x.2.1 ∧ (∃ m, m ≤ i ∧ x.2.2.1 = nI m ∧ y.2.2.1 = nI m) ∧ ∃ v', RCc (setT K s 1 v') x.2.2.2.1) P 64 ?_ ?_ 64 0 F F (0, -4, 0, tr, da) (0, -4, 0, now, la, lh, ls) (by omega) hF hF ⟨rfl, rfl, rfl, ⟨0, by omega, rfl, rfl⟩, hr⟩
  · rintro i ⟨a, b, c, tr, da⟩ ⟨a', b', c', now, la, lh, ls⟩ n m hi ⟨e1, e2, e3, ⟨u, hu, e4, e5⟩, v', e6⟩ ih
    simp only at e1 e2 e3 e4 e5 e6 ⊢
    subst e1 e2 e3 e4 e5
    obtain ⟨da', g1, g2, g3⟩ := c_try da hK hs (ok1 hi) e6
    have g4 : fX1_isAsSeen da' _ = some (if soB K s 1 i then nI 1 else nI 0) := c_seen g3 (WF_set hK hs (ok1 hi)) g2
    obtain ⟨n', la', lh', ls', k1, _⟩ := m_isSo now la lh ls hK hm hs (show 1 < 5 by omega) (ok1 hi)
    have et : tvk 1 i = cell i := rfl
    rw [et] at g1 g4 k1 g2
    rw [fX5_froms_L42, fX6_froms_L26]
    cases eb : soB K s 1 i with
    | true =>
      rw [eb] at g4 k1
      by_cases c0 : u = 0
      · simp (disch := omega) only [nm_q, bd1_some, bd2_some, bd3_some, bd4_some, bd5_some, bd6_some, bd7_some, bd8_some, bd9_some, bd10_some, bd11_some, bd1_ite, ↓reduceIte, gd_nI, gb_nI, gb_ite, li, liL, nI_add, nI_1, pk_sub, pk_mul, pk_div, nI_clamp, nI_eq, nI_leI, nI_ltI, nI_eqn, nI_neq, nI_nn, nI_len, nI_ltn, ngI_le, ngI_lt, nng, sm10, sm8, shr_n, shl_n, and_1, fa_or, leT, leF, ltT, ltF, eqT, eqF, c_cell hi, m_cell hi, g1, g4, k1, tt_i]
        exact ih (nI (i + 1), nI (cell i), nI (u + 1), _, da') (nI (i + 1), nI (cell i), nI (u + 1), n', la', lh', ls') ⟨rfl, rfl, rfl, ⟨u + 1, by omega, rfl, rfl⟩, i, g2⟩
      · simp (disch := omega) only [nm_q, bd1_some, bd2_some, bd3_some, bd4_some, bd5_some, bd6_some, bd7_some, bd8_some, bd9_some, bd10_some, bd11_some, bd1_ite, ↓reduceIte, gd_nI, gb_nI, gb_ite, li, liL, nI_add, nI_1, pk_sub, pk_mul, pk_div, nI_clamp, nI_eq, nI_leI, nI_ltI, nI_eqn, nI_neq, nI_nn, nI_len, nI_ltn, ngI_le, ngI_lt, nng, sm10, sm8, shr_n, shl_n, and_1, fa_or, leT, leF, ltT, ltF, eqT, eqF, c_cell hi, m_cell hi, g1, g4, k1, tt_i]
        exact ih (nI (i + 1), b', nI (u + 1), _, da') (nI (i + 1), b', nI (u + 1), n', la', lh', ls') ⟨rfl, rfl, rfl, ⟨u + 1, by omega, rfl, rfl⟩, i, g2⟩
    | false =>
      rw [eb] at g4 k1
      simp (disch := omega) only [nm_q, bd1_some, bd2_some, bd3_some, bd4_some, bd5_some, bd6_some, bd7_some, bd8_some, bd9_some, bd10_some, bd11_some, bd1_ite, ↓reduceIte, gd_nI, gb_nI, gb_ite, li, liL, nI_add, nI_1, pk_sub, pk_mul, pk_div, nI_clamp, nI_eq, nI_leI, nI_ltI, nI_eqn, nI_neq, nI_nn, nI_len, nI_ltn, ngI_le, ngI_lt, nng, sm10, sm8, shr_n, shl_n, and_1, fa_or, leT, leF, ltT, ltF, eqT, eqF, c_cell hi, m_cell hi, g1, g4, k1, ff_i]
      exact ih (nI (i + 1), b', nI u, _, da') (nI (i + 1), b', nI u, n', la', lh', ls') ⟨rfl, rfl, rfl, ⟨u, by omega, rfl, rfl⟩, i, g2⟩
  · rintro ⟨a, b, c, tr, da⟩ ⟨a', b', c', now, la, lh, ls⟩ n m ⟨e1, e2, e3, ⟨u, hu, e4, e5⟩, e6⟩
    simp only at e1 e2 e3 e4 e5 e6 ⊢
    subst e1 e2 e3 e4 e5
    rw [fX5_froms_L42, fX6_froms_L26]
    simp (disch := omega) only [nm_q, bd1_some, bd2_some, bd3_some, bd4_some, bd5_some, bd6_some, bd7_some, bd8_some, bd9_some, bd10_some, bd11_some, bd1_ite, ↓reduceIte, gd_nI, gb_nI, gb_ite, li, liL, nI_add, nI_1, pk_sub, pk_mul, pk_div, nI_clamp, nI_eq, nI_leI, nI_ltI, nI_eqn, nI_neq, nI_nn, nI_len, nI_ltn, ngI_le, ngI_lt, nng, sm10, sm8, shr_n, shl_n, and_1, fa_or, leT, leF, ltT, ltF, eqT, eqF]
    exact hE _ _ _ _ _ _ _ _ _
theorem ev_froms (v : VT) (rd : RT) (dr : CT) (nw : CT) (tr : CT) (da : DT) (i0 : CT) (i1 : CT) (s0 : ST) (s1 : ST) (s2 : ST) (s3 : ST) (st : AI) (now : AI) (isKept : AI) (hearers : Int32) (draft : AI) (dHearers : Int32) (dWalls : Int32) (toldWinds : Int32) (tape : AI) (taped : Int32) (pos : Int32) (frm : Int32) (sort : Int32) (value : Int32) (fault : Int32) (wrongAt : Int32) (landed : AI) (landedIn : AI) (stepped : AI) (isThere : AI) (isAt : AI) (isNext : AI) (landSum : Int64) (heardSum : Int64) (allWays : Int64) (ways : AI) (drawn : AI) (lanes : AI) (sizes : AI) (cells : AI) (torn : Int32) (before : AI) (hR : Rel v rd nw i0 i1 s0 s1 s2 s3 st isKept hearers tape taped fault lanes sizes cells torn) (p1 : Int32) (p2 : Int32) : ∃ (res : Int32) (tr_x : CT) (da_x : DT) (now_x : AI) (landed_x : AI) (landedIn_x : AI) (stepped_x : AI), fX5_froms p1 p2 v nw tr da = some (res, tr_x, da_x) ∧ fX6_froms p1 p2 st now landed landedIn stepped = some (res, now_x, landed_x, landedIn_x, stepped_x) ∧ (Rel v rd nw i0 i1 s0 s1 s2 s3 st isKept hearers tape taped fault lanes sizes cells torn) := by
  have hR0 := hR
  obtain ⟨⟨K, hK, hc, hm⟩, r0, r1, rt, rf, q0, q1, q2, q3, rl⟩ := hR
  have hm0 := RCm0 hm
  have hN := WF_N hK
  rcases isSay hN hc.2.2.1 hm0.2.2.1 p1 with ⟨s, hs, rfl, f1, f2⟩ | ⟨f1, f2⟩
  · rcases isPt p2 with ⟨j, hj, rfl, h3⟩ | ⟨h1, h2⟩
    · have key : T5 (fX5_froms (nI s) (nI j) v nw tr da) (fX6_froms (nI s) (nI j) st now landed landedIn stepped) := by
        obtain ⟨F, hF⟩ : ∃ F, F = 4096 := ⟨_, rfl⟩
        rw [fX5_froms, f1, bd1_some, if_neg (show ¬ nI 1 = 0 from n10), if_neg (nI_pos (show j < 2 ^ 31 by omega)), if_pos (show nI j ≤ 1 from nI_le (b := 1) (by omega) (by omega)), fX0_copyTo, bd1_some, fX6_froms, f2, bd1_some, if_neg (show ¬ nI 1 = 0 from n10), h3, bd1_some, if_neg (show ¬ nI 1 = 0 from n10), ← hF]
        refine froms_lk hK hm hs _ _ T5 ?_ F (by omega) nw da now landed landedIn stepped ⟨_, by rw [set_same]; exact hc⟩
        intro a b c tr da now la lh ls
        by_cases c0 : nI j = 0
        · rw [if_pos c0, if_pos c0]; exact T5_i
        · rw [if_neg c0, if_neg c0]; exact T5_i
      obtain ⟨res, a1, a2, a3, a4, a5, a6, e1, e2⟩ := key
      exact ⟨res, a1, a2, a3, a4, a5, a6, e1, e2, hR0⟩
    · refine ⟨-nI 1, tr, da, now, landed, landedIn, stepped, ?_, ?_, hR0⟩
      · rw [fX5_froms, f1, bd1_some, if_neg (show ¬ nI 1 = 0 from n10)]
        exact rgA _ _ h1
      · rw [fX6_froms, f2, bd1_some, if_neg (show ¬ nI 1 = 0 from n10), h2]; rfl
  · refine ⟨-nI 1, tr, da, now, landed, landedIn, stepped, ?_, ?_, hR0⟩
    · rw [fX5_froms, f1]; rfl
    · rw [fX6_froms, f2]; rfl
theorem RN_wall {K : KT} {W : Nat} {now : AI} (W' : Nat) (h : RN K W now) : RN (setW K W') W now := h
theorem screen_lk {K : KT} {q : Nat} {nw : CT} {st : AI} {h : Int32} (hK : WFk K) (hp : pcnt (kW K) < 12) (hc : RCc K nw) (hm : RCm K st 0 h) (hq : q < 64) (A : Int32 → CT → DT → Option (Int32 × CT × DT)) (B : Int32 → AI → AI → AI → AI → Option (Int32 × AI × AI × AI × AI)) (P : Option (Int32 × CT × DT) → Option (Int32 × AI × AI × AI × AI) → Prop) (hE : ∀ a b tr da now la lh ls, P (A a tr da) (B b now la lh ls)) (hX : ∀ (r : Int32) tr da now la lh ls, P (some (r, tr, da)) (some (r, now, la, lh, ls))) (F : Nat) (hF : 64 < F) (tr : CT) (da : DT) (now la lh ls : AI) (hr : ∃ W, RCc (setW K W) tr) : P (fX5_screen_L70 nw (nI q) A F 0 tr da) (fX6_screen_L42 st (nI (cell q)) B F 0 now la lh ls) := by
  have hN := WF_N hK
  have hW64 := WF_W hK
  have hW := (lN_of hc.1).1
  refine lock (fun n (t : Int32 × CT × DT) => fX5_screen_L70 nw (nI q) A n t.1 t.2.1 t.2.2) (fun n (t : Int32 × AI × AI × AI × AI) => fX6_screen_L42 st (nI (cell q)) B n t.1 t.2.1 t.2.2.1 t.2.2.2.1 t.2.2.2.2) (fun i x y => x.1 = nI i ∧ y.1 = nI i ∧ ∃ W, RCc (setW K W) x.2.1) P 64 ?_ ?_ 64 0 F F (0, tr, da) (0, now, la, lh, ls) (by omega) hF hF ⟨rfl, rfl, hr⟩
  · rintro i ⟨a, tr, da⟩ ⟨a', now, la, lh, ls⟩ n m hi ⟨e1, e2, W, e3⟩ ih
    simp only at e1 e2 e3 ⊢
    subst e1 e2
    have hn := RN_starts now hK hm
    have hcl := cell_lt hi
    rw [fX5_screen_L70, fX6_screen_L42]
    cases ew : (kW K).testBit i with
    | true =>
      simp (disch := omega) only [nm_q, bd1_some, bd2_some, bd3_some, bd4_some, bd5_some, bd6_some, bd7_some, bd8_some, bd9_some, bd10_some, bd11_some, bd1_ite, ↓reduceIte, gd_nI, gb_nI, gb_ite, li, liL, nI_add, nI_1, pk_sub, pk_mul, pk_div, nI_clamp, nI_eq, nI_leI, nI_ltI, nI_eqn, nI_neq, nI_nn, nI_len, nI_ltn, ngI_le, ngI_lt, nng, sm10, sm8, shr_n, shl_n, and_1, fa_or, leT, leF, ltT, ltF, eqT, eqF, hW, c_has hW64 hi, m_cell hi, m_starts, m_wall hn.1 hi, ew, tt_i]
      exact ih (nI (i + 1), tr, da) (nI (i + 1), _, la, lh, ls) ⟨rfl, rfl, W, e3⟩
    | false =>
      have hWF : WFk (setW K (kW K ||| 2 ^ i)) := WF_W' hK (or_lt hW64 hi) (by have := pc_set (W := kW K) (p := i); omega)
      have r : RCc (setW K (kW K ||| 2 ^ i)) (cW' tr (lN (kW K ||| 2 ^ i))) := RCc_W (K := setW K W) e3 (or_lt hW64 hi)
      obtain ⟨da', g1, g2⟩ := c_day da hWF r
      obtain ⟨n', la', lh', ls', k1, k2⟩ := m_day la lh ls hWF (RN_wall (kW K ||| 2 ^ i) (RN_set hn hi))
      have x1 := c_landed g2 hN hq
      have x2 := m_landed k2 hN hq
      have hb := atB_lt (K := setW K (kW K ||| 2 ^ i)) q hN
      have e2 : fa_fill st now 61 (cell i / 10) = nI (kW K / 2 ^ (8 * (i / 8)) % 256) := by rw [cell_d hi]; exact hn.1 _ (by omega)
      simp (disch := omega) only [nm_q, bd1_some, bd2_some, bd3_some, bd4_some, bd5_some, bd6_some, bd7_some, bd8_some, bd9_some, bd10_some, bd11_some, bd1_ite, ↓reduceIte, gd_nI, gb_nI, gb_ite, li, liL, nI_add, nI_1, pk_sub, pk_mul, pk_div, nI_clamp, nI_eq, nI_leI, nI_ltI, nI_eqn, nI_neq, nI_nn, nI_len, nI_ltn, ngI_le, ngI_lt, nng, sm10, sm8, shr_n, shl_n, and_1, fa_or, leT, leF, ltT, ltF, eqT, eqF, hW, c_has hW64 hi, m_cell hi, m_starts, m_wall hn.1 hi, ew, ff_i, c_set hi, g1, x1, e2, cell_m hi, shl_1]
      rw [cell_d hi, k1, bd4_some, x2, bd1_some]
      by_cases c0 : atB (setW K (kW K ||| 2 ^ i)) q = 0
      · simp (disch := omega) only [nm_q, bd1_some, bd2_some, bd3_some, bd4_some, bd5_some, bd6_some, bd7_some, bd8_some, bd9_some, bd10_some, bd11_some, bd1_ite, ↓reduceIte, gd_nI, gb_nI, gb_ite, li, liL, nI_add, nI_1, pk_sub, pk_mul, pk_div, nI_clamp, nI_eq, nI_leI, nI_ltI, nI_eqn, nI_neq, nI_nn, nI_len, nI_ltn, ngI_le, ngI_lt, nng, sm10, sm8, shr_n, shl_n, and_1, fa_or, leT, leF, ltT, ltF, eqT, eqF, c_cell hi]
        exact hX _ _ _ _ _ _ _
      · simp (disch := omega) only [nm_q, bd1_some, bd2_some, bd3_some, bd4_some, bd5_some, bd6_some, bd7_some, bd8_some, bd9_some, bd10_some, bd11_some, bd1_ite, ↓reduceIte, gd_nI, gb_nI, gb_ite, li, liL, nI_add, nI_1, pk_sub, pk_mul, pk_div, nI_clamp, nI_eq, nI_leI, nI_ltI, nI_eqn, nI_neq, nI_nn, nI_len, nI_ltn, ngI_le, ngI_lt, nng, sm10, sm8, shr_n, shl_n, and_1, fa_or, leT, leF, ltT, ltF, eqT, eqF]
        exact ih (nI (i + 1), _, da') (nI (i + 1), n', la', lh', ls') ⟨rfl, rfl, _, r⟩
  · rintro ⟨a, tr, da⟩ ⟨a', now, la, lh, ls⟩ n m ⟨e1, e2, e3⟩
    simp only at e1 e2 e3 ⊢
    subst e1 e2
    rw [fX5_screen_L70, fX6_screen_L42]
    simp (disch := omega) only [nm_q, bd1_some, bd2_some, bd3_some, bd4_some, bd5_some, bd6_some, bd7_some, bd8_some, bd9_some, bd10_some, bd11_some, bd1_ite, ↓reduceIte, gd_nI, gb_nI, gb_ite, li, liL, nI_add, nI_1, pk_sub, pk_mul, pk_div, nI_clamp, nI_eq, nI_leI, nI_ltI, nI_eqn, nI_neq, nI_nn, nI_len, nI_ltn, ngI_le, ngI_lt, nng, sm10, sm8, shr_n, shl_n, and_1, fa_or, leT, leF, ltT, ltF, eqT, eqF]
    exact hE _ _ _ _ _ _ _ _
theorem ev_screen (v : VT) (rd : RT) (dr : CT) (nw : CT) (tr : CT) (da : DT) (i0 : CT) (i1 : CT) (s0 : ST) (s1 : ST) (s2 : ST) (s3 : ST) (st : AI) (now : AI) (isKept : AI) (hearers : Int32) (draft : AI) (dHearers : Int32) (dWalls : Int32) (toldWinds : Int32) (tape : AI) (taped : Int32) (pos : Int32) (frm : Int32) (sort : Int32) (value : Int32) (fault : Int32) (wrongAt : Int32) (landed : AI) (landedIn : AI) (stepped : AI) (isThere : AI) (isAt : AI) (isNext : AI) (landSum : Int64) (heardSum : Int64) (allWays : Int64) (ways : AI) (drawn : AI) (lanes : AI) (sizes : AI) (cells : AI) (torn : Int32) (before : AI) (hR : Rel v rd nw i0 i1 s0 s1 s2 s3 st isKept hearers tape taped fault lanes sizes cells torn) (p1 : Int32) : ∃ (res : Int32) (tr_x : CT) (da_x : DT) (now_x : AI) (landed_x : AI) (landedIn_x : AI) (stepped_x : AI), fX5_screen p1 v nw tr da = some (res, tr_x, da_x) ∧ fX6_screen p1 st now landed landedIn stepped = some (res, now_x, landed_x, landedIn_x, stepped_x) ∧ (Rel v rd nw i0 i1 s0 s1 s2 s3 st isKept hearers tape taped fault lanes sizes cells torn) := by
  have hR0 := hR
  obtain ⟨⟨K, hK, hc, hm⟩, r0, r1, rt, rf, q0, q1, q2, q3, rl⟩ := hR
  have hN := WF_N hK
  have hW64 := WF_W hK
  have hW := (lN_of hc.1).1
  have hP : pcnt (kW K) ≤ 12 := hK.2.1
  rcases isC p1 with ⟨q, hq, rfl, f1, f2⟩ | ⟨f1, f2⟩
  · have hn := RN_starts now hK hm
    by_cases hp : pcnt (kW K) < 12
    · obtain ⟨d', g1, g2⟩ := c_day da hK hc
      obtain ⟨n', la', lh', ls', k1, k2⟩ := m_day landed landedIn stepped hK hn
      have x1 := c_landed g2 hN hq
      have x2 := m_landed k2 hN hq
      have hb := atB_lt (K := K) q hN
      by_cases c0 : atB K q = 0
      · refine ⟨-nI 4, tr, d', n', la', lh', ls', ?_, ?_, hR0⟩
        · obtain ⟨F, hF⟩ : ∃ F, F = 4096 := ⟨_, rfl⟩
          rw [fX5_screen, ← hF]
          simp (disch := omega) only [nm_q, bd1_some, bd2_some, bd3_some, bd4_some, bd5_some, bd6_some, bd7_some, bd8_some, bd9_some, bd10_some, bd11_some, bd1_ite, ↓reduceIte, gd_nI, gb_nI, gb_ite, li, liL, nI_add, nI_1, pk_sub, pk_mul, pk_div, nI_clamp, nI_eq, nI_leI, nI_ltI, nI_eqn, nI_neq, nI_nn, nI_len, nI_ltn, ngI_le, ngI_lt, nng, sm10, sm8, shr_n, shl_n, and_1, fa_or, leT, leF, ltT, ltF, eqT, eqF, f1, hW, c_pop hW64, c_place hq, g1, x1]
        · obtain ⟨F, hF⟩ : ∃ F, F = 4096 := ⟨_, rfl⟩
          rw [fX6_screen, ← hF]
          simp (disch := omega) only [nm_q, bd1_some, bd2_some, bd3_some, bd4_some, bd5_some, bd6_some, bd7_some, bd8_some, bd9_some, bd10_some, bd11_some, bd1_ite, ↓reduceIte, gd_nI, gb_nI, gb_ite, li, liL, nI_add, nI_1, pk_sub, pk_mul, pk_div, nI_clamp, nI_eq, nI_leI, nI_ltI, nI_eqn, nI_neq, nI_nn, nI_len, nI_ltn, ngI_le, ngI_lt, nng, sm10, sm8, shr_n, shl_n, and_1, fa_or, leT, leF, ltT, ltF, eqT, eqF, f2, m_starts, m_walls hn.1, k1, x2]
      · have key : T5 (fX5_screen (nI (cell q)) v nw tr da) (fX6_screen (nI (cell q)) st now landed landedIn stepped) := by
          obtain ⟨F, hF⟩ : ∃ F, F = 4096 := ⟨_, rfl⟩
          have z1 : ¬ nI (atB K q) = 0 := by rw [show (0 : Int32) = nI 0 from rfl, nI_eq (by omega) (by omega)]; exact c0
          have z2 : nI (pcnt (kW K)) < 12 := nI_lt (b := 12) hp (by omega)
          have z3 : ¬ nI (pcnt (kW K)) = 12 := by rw [show (12 : Int32) = nI 12 from rfl, nI_eq (by omega) (by omega)]; omega
          rw [fX5_screen, f1, bd1_some, if_neg (show ¬ nI 1 = 0 from n10), hW, c_pop hW64, bd1_some, if_pos z2, c_place hq, bd1_some, g1, bd1_some, x1, bd1_some, if_neg z1, fX0_copyTo, bd1_some, fX6_screen, f2, bd1_some, if_neg (show ¬ nI 1 = 0 from n10), m_starts, bd1_some, m_walls hn.1, bd1_some, if_neg z3, k1, bd4_some, x2, bd1_some, if_neg z1, ← hF]
          exact screen_lk hK hp hc hm hq _ _ T5 (fun _ _ _ _ _ _ _ _ => T5_i) (fun _ _ _ _ _ _ _ => T5_i) F (by omega) nw d' n' la' lh' ls' ⟨kW K, hc⟩
        obtain ⟨res, a1, a2, a3, a4, a5, a6, e1, e2⟩ := key
        exact ⟨res, a1, a2, a3, a4, a5, a6, e1, e2, hR0⟩
    · refine ⟨-nI 3, tr, da, fa_fill st now 61, landed, landedIn, stepped, ?_, ?_, hR0⟩
      · obtain ⟨F, hF⟩ : ∃ F, F = 4096 := ⟨_, rfl⟩
        rw [fX5_screen, ← hF]
        simp (disch := omega) only [nm_q, bd1_some, bd2_some, bd3_some, bd4_some, bd5_some, bd6_some, bd7_some, bd8_some, bd9_some, bd10_some, bd11_some, bd1_ite, ↓reduceIte, gd_nI, gb_nI, gb_ite, li, liL, nI_add, nI_1, pk_sub, pk_mul, pk_div, nI_clamp, nI_eq, nI_leI, nI_ltI, nI_eqn, nI_neq, nI_nn, nI_len, nI_ltn, ngI_le, ngI_lt, nng, sm10, sm8, shr_n, shl_n, and_1, fa_or, leT, leF, ltT, ltF, eqT, eqF, f1, hW, c_pop hW64]
      · obtain ⟨F, hF⟩ : ∃ F, F = 4096 := ⟨_, rfl⟩
        rw [fX6_screen, ← hF]
        simp (disch := omega) only [nm_q, bd1_some, bd2_some, bd3_some, bd4_some, bd5_some, bd6_some, bd7_some, bd8_some, bd9_some, bd10_some, bd11_some, bd1_ite, ↓reduceIte, gd_nI, gb_nI, gb_ite, li, liL, nI_add, nI_1, pk_sub, pk_mul, pk_div, nI_clamp, nI_eq, nI_leI, nI_ltI, nI_eqn, nI_neq, nI_nn, nI_len, nI_ltn, ngI_le, ngI_lt, nng, sm10, sm8, shr_n, shl_n, and_1, fa_or, leT, leF, ltT, ltF, eqT, eqF, f2, m_starts, m_walls hn.1]
  · refine ⟨-nI 1, tr, da, now, landed, landedIn, stepped, ?_, ?_, hR0⟩
    · rw [fX5_screen, f1]; rfl
    · rw [fX6_screen, f2]; rfl
