-- what was SEEN; IMAGES
def setS (K : KT) (n : Nat) (ss sp : Nat → Nat) : KT := (K.1, K.2.1, K.2.2.1, K.2.2.2.1, K.2.2.2.2.1, K.2.2.2.2.2.1, n, ss, sp)
theorem ev_see (v : VT) (rd : RT) (dr : CT) (nw : CT) (tr : CT) (da : DT) (i0 : CT) (i1 : CT) (s0 : ST) (s1 : ST) (s2 : ST) (s3 : ST) (st : AI) (now : AI) (isKept : AI) (hearers : Int32) (draft : AI) (dHearers : Int32) (dWalls : Int32) (toldWinds : Int32) (tape : AI) (taped : Int32) (pos : Int32) (frm : Int32) (sort : Int32) (value : Int32) (fault : Int32) (wrongAt : Int32) (landed : AI) (landedIn : AI) (stepped : AI) (isThere : AI) (isAt : AI) (isNext : AI) (landSum : Int64) (heardSum : Int64) (allWays : Int64) (ways : AI) (drawn : AI) (lanes : AI) (sizes : AI) (cells : AI) (torn : Int32) (before : AI) (hR : Rel v rd nw i0 i1 s0 s1 s2 s3 st isKept hearers tape taped fault lanes sizes cells torn) (p1 : Int32) (p2 : Int32) : ∃ (res : Int32) (nw_x : CT) (st_x : AI), fX5_see p1 p2 v nw = some (res, nw_x) ∧ fX6_see p1 p2 st = some (res, st_x) ∧ (Rel v rd nw_x i0 i1 s0 s1 s2 s3 st_x isKept hearers tape taped fault lanes sizes cells torn) := by
  have hR0 := hR
  obtain ⟨⟨K, hK, hc, hm⟩, r0, r1, rt, rf, q0, q1, q2, q3, rl⟩ := hR
  have hm0 := RCm0 hm
  have hH := WF_H hK
  have hN := WF_N hK
  have hS := WF_S hK
  have e48 := hm0.2.2.2.2.2.2.1
  have eSe := hc.2.2.2.2.2.2.1
  have eSe' : nw.2.2.2.2.2.2.2.2 = nI (kS K) := eSe
  rcases isSay hN hc.2.2.1 hm0.2.2.1 p1 with ⟨s, hs, rfl, f1, f2⟩ | ⟨f1, f2⟩
  · rcases isC p2 with ⟨q, hq, rfl, g1, g2⟩ | ⟨g1, g2⟩
    · by_cases cS : kS K < 6
      · refine ⟨nI (kS K + 1), (nw.1, nw.2.1, nw.2.2.1, nw.2.2.2.1, nw.2.2.2.2.1, nw.2.2.2.2.2.1, upd (cSs nw) (kS K) (nI s), upd (cSp nw) (kS K) (nI q), nI (kS K + 1)), upd (upd (upd st (49 + 2 * kS K) (nI s)) (49 + 2 * kS K + 1) (nI (cell q))) 48 (nI (kS K + 1)), ?_, ?_, ⟨setS K (kS K + 1) (va_up (kSs K) (kS K) s) (va_up (kSp K) (kS K) q), ?_, ?_, ?_⟩, RI_cong rfl ?_ r0, RI_cong rfl ?_ r1, rt, rf, q0, q1, q2, q3, rl⟩
        · simp (disch := omega) only [fX5_see, f1, nm_q, bd1_some, bd2_some, bd3_some, bd4_some, bd5_some, bd6_some, bd7_some, bd8_some, bd9_some, bd10_some, bd11_some, bd1_ite, ↓reduceIte, gd_nI, gb_nI, gb_ite, li, liL, nI_add, nI_1, pk_sub, pk_mul, pk_div, nI_clamp, nI_eq, nI_leI, nI_ltI, nI_eqn, nI_neq, nI_nn, nI_len, nI_ltn, ngI_le, ngI_lt, nng, sm10, sm8, shr_n, shl_n, and_1, fa_or, leT, leF, ltT, ltF, eqT, eqF, g1, c_place hq, cSe, cSs, cSp, cSs', cSp', cSe', eSe']
        · simp (disch := omega) only [fX6_see, f2, nm_q, bd1_some, bd2_some, bd3_some, bd4_some, bd5_some, bd6_some, bd7_some, bd8_some, bd9_some, bd10_some, bd11_some, bd1_ite, ↓reduceIte, gd_nI, gb_nI, gb_ite, li, liL, nI_add, nI_1, pk_sub, pk_mul, pk_div, nI_clamp, nI_eq, nI_leI, nI_ltI, nI_eqn, nI_neq, nI_nn, nI_len, nI_ltn, ngI_le, ngI_lt, nng, sm10, sm8, shr_n, shl_n, and_1, fa_or, leT, leF, ltT, ltF, eqT, eqF, g2, e48, pk_un, pk_us]
        · obtain ⟨b1, b2, b3, b4, b5, b6, b7, b8, b9⟩ := hK
          refine ⟨b1, b2, b3, b4, b5, b6, b7, (show kS K + 1 ≤ 6 by omega), fun i hi => ?_⟩
          have hi2 : i < kS K + 1 := hi
          show va_up (kSs K) (kS K) s i < kN K ∧ va_up (kSp K) (kS K) q i < 64
          by_cases c : i = kS K
          · rw [c, up_s, up_s]; exact ⟨hs, hq⟩
          · rw [up_n _ _ c, up_n _ _ c]; exact b9 i (by omega)
        · obtain ⟨b1, b2, b3, b4, b5, b6, b7, b8, b9⟩ := hc
          refine ⟨b1, b2, b3, b4, b5, b6, rfl, fun i hi => ?_, fun i hi => ?_⟩
          · have hi2 : i < kS K + 1 := hi
            show upd (cSs nw) (kS K) (nI s) i = nI (va_up (kSs K) (kS K) s i)
            by_cases c : i = kS K
            · rw [c, up_s, pk_us]
            · rw [up_n _ _ c, pk_un c]; exact b8 i (by omega)
          · have hi2 : i < kS K + 1 := hi
            show upd (cSp nw) (kS K) (nI q) i = nI (va_up (kSp K) (kS K) q i)
            by_cases c : i = kS K
            · rw [c, up_s, pk_us]
            · rw [up_n _ _ c, pk_un c]; exact b9 i (by omega)
        · obtain ⟨b1, b2, b3, b4, b5, b6, b7, b8, b9⟩ := hm0
          unfold RCm
          simp only [Nat.zero_add]
          refine ⟨fun y hy => ?_, fun y hy => ?_, ?_, fun u hu j hj => ?_, b5, fun y hy => ?_, pk_us, fun y hy => ?_, fun y hy => ?_⟩
          · simp (disch := omega) only [pk_un]; exact b1 y hy
          · simp (disch := omega) only [pk_un]; exact b2 y hy
          · simp (disch := omega) only [pk_un]; exact b3
          · have hu2 : u < kN K := hu
            simp (disch := omega) only [pk_un]; exact b4 u hu j hj
          · have hy2 : y < kH K := hy
            simp (disch := omega) only [pk_un]; exact b6 y hy
          · have hy2 : y < kS K + 1 := hy
            show _ = nI (va_up (kSs K) (kS K) s y)
            by_cases c : y = kS K
            · rw [c, up_s]; simp (disch := omega) only [pk_un, pk_us]
            · rw [up_n _ _ c]; simp (disch := omega) only [pk_un]; exact b8 y (by omega)
          · have hy2 : y < kS K + 1 := hy
            show _ = nI (cell (va_up (kSp K) (kS K) q y))
            by_cases c : y = kS K
            · rw [c, up_s, pk_un (by omega), show 50 + 2 * kS K = 49 + 2 * kS K + 1 by omega, pk_us]
            · rw [up_n _ _ c]; simp (disch := omega) only [pk_un]; exact b9 y (by omega)
        · intro j hj
          simp (disch := omega) only [pk_un]
        · intro j hj
          simp (disch := omega) only [pk_un]
      · have hS6 : kS K = 6 := by omega
        refine ⟨-nI 3, nw, st, ?_, ?_, hR0⟩
        · simp (disch := omega) only [fX5_see, f1, nm_q, bd1_some, bd2_some, bd3_some, bd4_some, bd5_some, bd6_some, bd7_some, bd8_some, bd9_some, bd10_some, bd11_some, bd1_ite, ↓reduceIte, gd_nI, gb_nI, gb_ite, li, liL, nI_add, nI_1, pk_sub, pk_mul, pk_div, nI_clamp, nI_eq, nI_leI, nI_ltI, nI_eqn, nI_neq, nI_nn, nI_len, nI_ltn, ngI_le, ngI_lt, nng, sm10, sm8, shr_n, shl_n, and_1, fa_or, leT, leF, ltT, ltF, eqT, eqF, g1, eSe]
        · simp (disch := omega) only [fX6_see, f2, nm_q, bd1_some, bd2_some, bd3_some, bd4_some, bd5_some, bd6_some, bd7_some, bd8_some, bd9_some, bd10_some, bd11_some, bd1_ite, ↓reduceIte, gd_nI, gb_nI, gb_ite, li, liL, nI_add, nI_1, pk_sub, pk_mul, pk_div, nI_clamp, nI_eq, nI_leI, nI_ltI, nI_eqn, nI_neq, nI_nn, nI_len, nI_ltn, ngI_le, ngI_lt, nng, sm10, sm8, shr_n, shl_n, and_1, fa_or, leT, leF, ltT, ltF, eqT, eqF, g2, e48]
    · refine ⟨-nI 1, nw, st, ?_, ?_, hR0⟩
      · simp (disch := omega) only [fX5_see, f1, nm_q, bd1_some, bd2_some, bd3_some, bd4_some, bd5_some, bd6_some, bd7_some, bd8_some, bd9_some, bd10_some, bd11_some, bd1_ite, ↓reduceIte, gd_nI, gb_nI, gb_ite, li, liL, nI_add, nI_1, pk_sub, pk_mul, pk_div, nI_clamp, nI_eq, nI_leI, nI_ltI, nI_eqn, nI_neq, nI_nn, nI_len, nI_ltn, ngI_le, ngI_lt, nng, sm10, sm8, shr_n, shl_n, and_1, fa_or, leT, leF, ltT, ltF, eqT, eqF, g1]
      · simp (disch := omega) only [fX6_see, f2, nm_q, bd1_some, bd2_some, bd3_some, bd4_some, bd5_some, bd6_some, bd7_some, bd8_some, bd9_some, bd10_some, bd11_some, bd1_ite, ↓reduceIte, gd_nI, gb_nI, gb_ite, li, liL, nI_add, nI_1, pk_sub, pk_mul, pk_div, nI_clamp, nI_eq, nI_leI, nI_ltI, nI_eqn, nI_neq, nI_nn, nI_len, nI_ltn, ngI_le, ngI_lt, nng, sm10, sm8, shr_n, shl_n, and_1, fa_or, leT, leF, ltT, ltF, eqT, eqF, g2]
  · refine ⟨-nI 1, nw, st, ?_, ?_, hR0⟩
    · simp (disch := omega) only [fX5_see, f1, nm_q, bd1_some, bd2_some, bd3_some, bd4_some, bd5_some, bd6_some, bd7_some, bd8_some, bd9_some, bd10_some, bd11_some, bd1_ite, ↓reduceIte, gd_nI, gb_nI, gb_ite, li, liL, nI_add, nI_1, pk_sub, pk_mul, pk_div, nI_clamp, nI_eq, nI_leI, nI_ltI, nI_eqn, nI_neq, nI_nn, nI_len, nI_ltn, ngI_le, ngI_lt, nng, sm10, sm8, shr_n, shl_n, and_1, fa_or, leT, leF, ltT, ltF, eqT, eqF]
    · simp (disch := omega) only [fX6_see, f2, nm_q, bd1_some, bd2_some, bd3_some, bd4_some, bd5_some, bd6_some, bd7_some, bd8_some, bd9_some, bd10_some, bd11_some, bd1_ite, ↓reduceIte, gd_nI, gb_nI, gb_ite, li, liL, nI_add, nI_1, pk_sub, pk_mul, pk_div, nI_clamp, nI_eq, nI_leI, nI_ltI, nI_eqn, nI_neq, nI_nn, nI_len, nI_ltn, ngI_le, ngI_lt, nng, sm10, sm8, shr_n, shl_n, and_1, fa_or, leT, leF, ltT, ltF, eqT, eqF]
theorem ev_forget (v : VT) (rd : RT) (dr : CT) (nw : CT) (tr : CT) (da : DT) (i0 : CT) (i1 : CT) (s0 : ST) (s1 : ST) (s2 : ST) (s3 : ST) (st : AI) (now : AI) (isKept : AI) (hearers : Int32) (draft : AI) (dHearers : Int32) (dWalls : Int32) (toldWinds : Int32) (tape : AI) (taped : Int32) (pos : Int32) (frm : Int32) (sort : Int32) (value : Int32) (fault : Int32) (wrongAt : Int32) (landed : AI) (landedIn : AI) (stepped : AI) (isThere : AI) (isAt : AI) (isNext : AI) (landSum : Int64) (heardSum : Int64) (allWays : Int64) (ways : AI) (drawn : AI) (lanes : AI) (sizes : AI) (cells : AI) (torn : Int32) (before : AI) (hR : Rel v rd nw i0 i1 s0 s1 s2 s3 st isKept hearers tape taped fault lanes sizes cells torn) (p1 : Int32) : ∃ (res : Int32) (nw_x : CT) (st_x : AI), fX5_forget p1 v nw = some (res, nw_x) ∧ fX6_forget p1 st = some (res, st_x) ∧ (Rel v rd nw_x i0 i1 s0 s1 s2 s3 st_x isKept hearers tape taped fault lanes sizes cells torn) := by
  have hR0 := hR
  obtain ⟨⟨K, hK, hc, hm⟩, r0, r1, rt, rf, q0, q1, q2, q3, rl⟩ := hR
  have hm0 := RCm0 hm
  have hH := WF_H hK
  have hN := WF_N hK
  have hS := WF_S hK
  have e48 := hm0.2.2.2.2.2.2.1
  have eSe := hc.2.2.2.2.2.2.1
  rcases in_rg p1 0 (kS K) (by omega) (by omega) with ⟨n, h1, h2, rfl, h3⟩ | ⟨h1, h2⟩
  · refine ⟨nI (kS K), cSe' nw (nI n), upd st 48 (nI n), ?_, ?_, ⟨setS K n (kSs K) (kSp K), ?_, ?_, ?_⟩, RI_cong rfl (upd61 _ (by omega)) r0, RI_cong rfl (upd61 _ (by omega)) r1, rt, rf, q0, q1, q2, q3, rl⟩
    · simp (disch := omega) only [fX5_forget, nm_q, bd1_some, bd2_some, bd3_some, bd4_some, bd5_some, bd6_some, bd7_some, bd8_some, bd9_some, bd10_some, bd11_some, bd1_ite, ↓reduceIte, gd_nI, gb_nI, gb_ite, li, liL, nI_add, nI_1, pk_sub, pk_mul, pk_div, nI_clamp, nI_eq, nI_leI, nI_ltI, nI_eqn, nI_neq, nI_nn, nI_len, nI_ltn, ngI_le, ngI_lt, nng, sm10, sm8, shr_n, shl_n, and_1, fa_or, leT, leF, ltT, ltF, eqT, eqF, eSe]
    · rw [nI_l (by omega)] at h3
      simp (disch := omega) only [fX6_forget, nm_q, bd1_some, bd2_some, bd3_some, bd4_some, bd5_some, bd6_some, bd7_some, bd8_some, bd9_some, bd10_some, bd11_some, bd1_ite, ↓reduceIte, gd_nI, gb_nI, gb_ite, li, liL, nI_add, nI_1, pk_sub, pk_mul, pk_div, nI_clamp, nI_eq, nI_leI, nI_ltI, nI_eqn, nI_neq, nI_nn, nI_len, nI_ltn, ngI_le, ngI_lt, nng, sm10, sm8, shr_n, shl_n, and_1, fa_or, leT, leF, ltT, ltF, eqT, eqF, e48, nI_l, h3, m_becomes]
    · obtain ⟨b1, b2, b3, b4, b5, b6, b7, b8, b9⟩ := hK
      exact ⟨b1, b2, b3, b4, b5, b6, b7, (show n ≤ 6 by omega), fun i hi => b9 i (Nat.lt_of_lt_of_le hi h2)⟩
    · obtain ⟨b1, b2, b3, b4, b5, b6, b7, b8, b9⟩ := hc
      exact ⟨b1, b2, b3, b4, b5, b6, rfl, fun i hi => b8 i (Nat.lt_of_lt_of_le hi h2), fun i hi => b9 i (Nat.lt_of_lt_of_le hi h2)⟩
    · obtain ⟨b1, b2, b3, b4, b5, b6, b7, b8, b9⟩ := hm0
      unfold RCm
      simp only [Nat.zero_add]
      refine ⟨fun y hy => ?_, fun y hy => ?_, ?_, fun u hu j hj => ?_, b5, fun y hy => ?_, pk_us, fun y hy => ?_, fun y hy => ?_⟩
      · rw [pk_un (by omega)]; exact b1 y hy
      · rw [pk_un (by omega)]; exact b2 y hy
      · rw [pk_un (by omega)]; exact b3
      · have hu2 : u < kN K := hu
        rw [pk_un (by omega)]; exact b4 u hu j hj
      · have hy2 : y < kH K := hy
        rw [pk_un (by omega)]; exact b6 y hy
      · rw [pk_un (by omega)]; exact b8 y (Nat.lt_of_lt_of_le hy h2)
      · rw [pk_un (by omega)]; exact b9 y (Nat.lt_of_lt_of_le hy h2)
  · refine ⟨-nI 1, nw, st, ?_, ?_, hR0⟩
    · rw [fX5_forget, eSe]; exact rgA _ _ h1
    · simp (disch := omega) only [fX6_forget, nm_q, bd1_some, bd2_some, bd3_some, bd4_some, bd5_some, bd6_some, bd7_some, bd8_some, bd9_some, bd10_some, bd11_some, bd1_ite, ↓reduceIte, gd_nI, gb_nI, gb_ite, li, liL, nI_add, nI_1, pk_sub, pk_mul, pk_div, nI_clamp, nI_eq, nI_leI, nI_ltI, nI_eqn, nI_neq, nI_nn, nI_len, nI_ltn, ngI_le, ngI_lt, nng, sm10, sm8, shr_n, shl_n, and_1, fa_or, leT, leF, ltT, ltF, eqT, eqF, e48, nI_l, h2]
theorem m_copies {a b : Nat} (st : AI) (ha : a + 61 ≤ 183) (hb : b + 61 ≤ 183) (hd : a + 61 ≤ b ∨ b + 61 ≤ a) : fX6_copies (nI a) (nI b) st = some (fb_put st (fun k => st (b + k)) a 61) := by
  obtain ⟨F, hF⟩ : ∃ F, F = 4096 := ⟨_, rfl⟩
  rw [fX6_copies, ← hF]
  refine solo (fun n (s : Int32 × AI) => fX6_copies_L2 (nI a) (nI b) (fun v1 st_2 => some st_2) n s.1 s.2) (fun i s => s = (nI i, fb_put st (fun k => st (b + k)) a i)) (fun x => x = some (fb_put st (fun k => st (b + k)) a 61)) 61 ?_ ?_ 61 0 F (nI 0, st) (by omega) (by omega) (by rw [fb_put_0])
  · rintro i s n hi rfl ih
    have := ih _ rfl
    rw [← fb_put_succ] at this
    show fX6_copies_L2 (nI a) (nI b) _ (n + 1) (nI i) (fb_put st (fun k => st (b + k)) a i) = _
    rw [fX6_copies_L2]
    have e : fb_put st (fun k => st (b + k)) a i (b + i) = st (b + i) := fb_put_out (by omega)
    simp (disch := omega) only [nm_q, bd1_some, bd2_some, bd3_some, bd4_some, bd5_some, bd6_some, bd7_some, bd8_some, bd9_some, bd10_some, bd11_some, bd1_ite, ↓reduceIte, gd_nI, gb_nI, gb_ite, li, liL, nI_add, nI_1, pk_sub, pk_mul, pk_div, nI_clamp, nI_eq, nI_leI, nI_ltI, nI_eqn, nI_neq, nI_nn, nI_len, nI_ltn, ngI_le, ngI_lt, nng, sm10, sm8, shr_n, shl_n, and_1, fa_or, leT, leF, ltT, ltF, eqT, eqF, e]
    exact this
  · rintro s n rfl
    show fX6_copies_L2 (nI a) (nI b) _ (n + 1) (nI 61) (fb_put st (fun k => st (b + k)) a 61) = _
    rw [fX6_copies_L2]
    simp (disch := omega) only [nm_q, bd1_some, bd2_some, bd3_some, bd4_some, bd5_some, bd6_some, bd7_some, bd8_some, bd9_some, bd10_some, bd11_some, bd1_ite, ↓reduceIte, gd_nI, gb_nI, gb_ite, li, liL, nI_add, nI_1, pk_sub, pk_mul, pk_div, nI_clamp, nI_eq, nI_leI, nI_ltI, nI_eqn, nI_neq, nI_nn, nI_len, nI_ltn, ngI_le, ngI_lt, nng, sm10, sm8, shr_n, shl_n, and_1, fa_or, leT, leF, ltT, ltF, eqT, eqF]
theorem nar1 : vp_nar .boolean 1 = 1 := by decide
theorem nar0 : vp_nar .boolean 0 = 0 := by decide
theorem ev_keep (v : VT) (rd : RT) (dr : CT) (nw : CT) (tr : CT) (da : DT) (i0 : CT) (i1 : CT) (s0 : ST) (s1 : ST) (s2 : ST) (s3 : ST) (st : AI) (now : AI) (isKept : AI) (hearers : Int32) (draft : AI) (dHearers : Int32) (dWalls : Int32) (toldWinds : Int32) (tape : AI) (taped : Int32) (pos : Int32) (frm : Int32) (sort : Int32) (value : Int32) (fault : Int32) (wrongAt : Int32) (landed : AI) (landedIn : AI) (stepped : AI) (isThere : AI) (isAt : AI) (isNext : AI) (landSum : Int64) (heardSum : Int64) (allWays : Int64) (ways : AI) (drawn : AI) (lanes : AI) (sizes : AI) (cells : AI) (torn : Int32) (before : AI) (hR : Rel v rd nw i0 i1 s0 s1 s2 s3 st isKept hearers tape taped fault lanes sizes cells torn) (p1 : Int32) : ∃ (res : Int32) (v_x : VT) (i0_x : CT) (i1_x : CT) (st_x : AI) (isKept_x : AI), fX5_keep p1 v nw i0 i1 = some (res, v_x, i0_x, i1_x) ∧ fX6_keep p1 st isKept = some (res, st_x, isKept_x) ∧ (Rel v_x rd nw i0_x i1_x s0 s1 s2 s3 st_x isKept_x hearers tape taped fault lanes sizes cells torn) := by
  have hR0 := hR
  obtain ⟨⟨K, hK, hc, hm⟩, r0, r1, rt, rf, q0, q1, q2, q3, rl⟩ := hR
  have z0 : isKept 0 = 0 ∨ isKept 0 = 1 := r0.2.imp id (fun q => q.1)
  have z1 : isKept 1 = 0 ∨ isKept 1 = 1 := r1.2.imp id (fun q => q.1)
  rcases in_rg p1 0 1 (by omega) (by omega) with ⟨k, h1, h2, rfl, h3⟩ | ⟨h1, h2⟩
  · have hk : k = 0 ∨ k = 1 := by omega
    have w0 : vKe v 0 = isKept 0 := r0.1
    have w1 : vKe v 1 = isKept 1 := r1.1
    have hst : ∀ j, j < 61 → fb_put st (fun k => st (0 + k)) (61 * (k + 1)) 61 (0 + j) = st (0 + j) := fun j hj => fb_put_out (by omega)
    have hst2 : ∀ j, j < 61 → fb_put st (fun k => st (0 + k)) (61 * (k + 1)) 61 (61 * (k + 1) + j) = st (0 + j) := fun j hj => by
      rw [fb_put_in (by omega) (by omega)]
      show st (0 + _) = _
      congr 1
      omega
    rcases hk with rfl | rfl
    · refine ⟨isKept 0, vKe' v (upd (vKe v) 0 1), nw, i1, fb_put st (fun k => st (0 + k)) 61 61, upd isKept 0 1, ?_, ?_, ⟨K, hK, hc, RCm_move hK hst hm⟩, ⟨rfl, Or.inr ⟨pk_us, K, hK, hc, RCm_move hK hst2 hm⟩⟩, ⟨?_, ?_⟩, rt, rf, q0, q1, q2, q3, rl⟩
      · rw [fX5_keep, if_neg (by decide), if_pos (by decide), gd, if_neg (by decide)]
        rw [show vKe v (nI 0).toNatClampNeg = isKept 0 from w0]
        rw [show (if isKept 0 = 0 then some 0 else some 1) = some (isKept 0) by rcases z0 with e | e <;> rw [e] <;> decide, bd1_some, gd, if_neg (by decide)]
        rfl
      · simp (disch := omega) only [fX6_keep, nm_q, bd1_some, bd2_some, bd3_some, bd4_some, bd5_some, bd6_some, bd7_some, bd8_some, bd9_some, bd10_some, bd11_some, bd1_ite, ↓reduceIte, gd_nI, gb_nI, gb_ite, li, liL, nI_add, nI_1, pk_sub, pk_mul, pk_div, nI_clamp, nI_eq, nI_leI, nI_ltI, nI_eqn, nI_neq, nI_nn, nI_len, nI_ltn, ngI_le, ngI_lt, nng, sm10, sm8, shr_n, shl_n, and_1, fa_or, leT, leF, ltT, ltF, eqT, eqF, h3, flag_z z0]
        rw [show nI (61 * (0 + 1)) = nI 61 from rfl, m_copies st (by omega) (by omega) (by omega)]
        rfl
      · show upd _ 0 1 1 = upd _ 0 1 1
        rw [pk_un (by omega), pk_un (by omega)]; exact w1
      · rw [pk_un (by omega)]
        rcases r1.2 with r | ⟨r, K2, a1, a2, a3⟩
        · exact Or.inl r
        · exact Or.inr ⟨r, K2, a1, a2, RCm_move a1 (fun j hj => fb_put_out (by omega)) a3⟩
    · refine ⟨isKept 1, vKe' v (upd (vKe v) 1 1), i0, nw, fb_put st (fun k => st (0 + k)) 122 61, upd isKept 1 1, ?_, ?_, ⟨K, hK, hc, RCm_move hK hst hm⟩, ⟨?_, ?_⟩, ⟨rfl, Or.inr ⟨pk_us, K, hK, hc, RCm_move hK hst2 hm⟩⟩, rt, rf, q0, q1, q2, q3, rl⟩
      · rw [fX5_keep, if_neg (by decide), if_pos (by decide), gd, if_neg (by decide)]
        rw [show vKe v (nI 1).toNatClampNeg = isKept 1 from w1]
        rw [show (if isKept 1 = 0 then some 0 else some 1) = some (isKept 1) by rcases z1 with e | e <;> rw [e] <;> decide, bd1_some, gd, if_neg (by decide)]
        rfl
      · simp (disch := omega) only [fX6_keep, nm_q, bd1_some, bd2_some, bd3_some, bd4_some, bd5_some, bd6_some, bd7_some, bd8_some, bd9_some, bd10_some, bd11_some, bd1_ite, ↓reduceIte, gd_nI, gb_nI, gb_ite, li, liL, nI_add, nI_1, pk_sub, pk_mul, pk_div, nI_clamp, nI_eq, nI_leI, nI_ltI, nI_eqn, nI_neq, nI_nn, nI_len, nI_ltn, ngI_le, ngI_lt, nng, sm10, sm8, shr_n, shl_n, and_1, fa_or, leT, leF, ltT, ltF, eqT, eqF, h3, flag_z z1]
        rw [show nI (61 * (1 + 1)) = nI 122 from rfl, m_copies st (by omega) (by omega) (by omega)]
        rfl
      · show upd _ 1 1 0 = upd _ 1 1 0
        rw [pk_un (by omega), pk_un (by omega)]; exact w0
      · rw [pk_un (by omega)]
        rcases r0.2 with r | ⟨r, K2, a1, a2, a3⟩
        · exact Or.inl r
        · exact Or.inr ⟨r, K2, a1, a2, RCm_move a1 (fun j hj => fb_put_out (by omega)) a3⟩
  · refine ⟨-nI 1, v, i0, i1, st, isKept, ?_, ?_, hR0⟩
    · rw [fX5_keep]
      by_cases c : p1 < 0
      · rw [if_pos c]; rfl
      · rw [if_neg c, if_neg]
        · rfl
        · rcases h1 with h1 | h1
          · exact absurd h1 c
          · rw [fa_lt, show (2 : Int32) = nI 2 from rfl, nI_toInt (by omega)]
            rw [fa_lt, nI_toInt (by omega)] at h1
            omega
    · simp (disch := omega) only [fX6_keep, nm_q, bd1_some, bd2_some, bd3_some, bd4_some, bd5_some, bd6_some, bd7_some, bd8_some, bd9_some, bd10_some, bd11_some, bd1_ite, ↓reduceIte, gd_nI, gb_nI, gb_ite, li, liL, nI_add, nI_1, pk_sub, pk_mul, pk_div, nI_clamp, nI_eq, nI_leI, nI_ltI, nI_eqn, nI_neq, nI_nn, nI_len, nI_ltn, ngI_le, ngI_lt, nng, sm10, sm8, shr_n, shl_n, and_1, fa_or, leT, leF, ltT, ltF, eqT, eqF, h2]
theorem ev_back (v : VT) (rd : RT) (dr : CT) (nw : CT) (tr : CT) (da : DT) (i0 : CT) (i1 : CT) (s0 : ST) (s1 : ST) (s2 : ST) (s3 : ST) (st : AI) (now : AI) (isKept : AI) (hearers : Int32) (draft : AI) (dHearers : Int32) (dWalls : Int32) (toldWinds : Int32) (tape : AI) (taped : Int32) (pos : Int32) (frm : Int32) (sort : Int32) (value : Int32) (fault : Int32) (wrongAt : Int32) (landed : AI) (landedIn : AI) (stepped : AI) (isThere : AI) (isAt : AI) (isNext : AI) (landSum : Int64) (heardSum : Int64) (allWays : Int64) (ways : AI) (drawn : AI) (lanes : AI) (sizes : AI) (cells : AI) (torn : Int32) (before : AI) (hR : Rel v rd nw i0 i1 s0 s1 s2 s3 st isKept hearers tape taped fault lanes sizes cells torn) (p1 : Int32) : ∃ (res : Int32) (nw_x : CT) (st_x : AI), fX5_back p1 v nw i0 i1 = some (res, nw_x) ∧ fX6_back p1 st isKept = some (res, st_x) ∧ (Rel v rd nw_x i0 i1 s0 s1 s2 s3 st_x isKept hearers tape taped fault lanes sizes cells torn) := by
  have hR0 := hR
  obtain ⟨⟨K, hK, hc, hm⟩, r0, r1, rt, rf, q0, q1, q2, q3, rl⟩ := hR
  rcases in_rg p1 0 1 (by omega) (by omega) with ⟨k, h1, h2, rfl, h3⟩ | ⟨h1, h2⟩
  · have hk : k = 0 ∨ k = 1 := by omega
    have w0 : vKe v 0 = isKept 0 := r0.1
    have w1 : vKe v 1 = isKept 1 := r1.1
    have hst : ∀ j, 61 ≤ j → fb_put st (fun i => st (61 * (k + 1) + i)) 0 61 j = st j := fun j hj => fb_put_out (by omega)
    have hst2 : ∀ j, j < 61 → fb_put st (fun i => st (61 * (k + 1) + i)) 0 61 (0 + j) = st (61 * (k + 1) + j) := fun j hj => by
      rw [fb_put_in (by omega) (by omega)]
      show st (61 * (k + 1) + (0 + j - 0)) = _
      congr 1
      omega
    rcases hk with rfl | rfl
    · rcases r0.2 with r | ⟨r, K2, a1, a2, a3⟩
      · refine ⟨-nI 2, nw, st, ?_, ?_, hR0⟩
        · rw [fX5_back, if_neg (by decide), if_pos (by decide), gd, if_neg (by decide), if_pos (by rw [show vKe v (nI 0).toNatClampNeg = isKept 0 from w0]; exact r)]
          rfl
        · simp (disch := omega) only [fX6_back, nm_q, bd1_some, bd2_some, bd3_some, bd4_some, bd5_some, bd6_some, bd7_some, bd8_some, bd9_some, bd10_some, bd11_some, bd1_ite, ↓reduceIte, gd_nI, gb_nI, gb_ite, li, liL, nI_add, nI_1, pk_sub, pk_mul, pk_div, nI_clamp, nI_eq, nI_leI, nI_ltI, nI_eqn, nI_neq, nI_nn, nI_len, nI_ltn, ngI_le, ngI_lt, nng, sm10, sm8, shr_n, shl_n, and_1, fa_or, leT, leF, ltT, ltF, eqT, eqF, h3, r]
      · have m43 := RCm0 (RCm_move a1 hst2 a3)
        refine ⟨nI (kN K2), i0, fb_put st (fun i => st (61 + i)) 0 61, ?_, ?_, ⟨K2, a1, a2, RCm_move a1 hst2 a3⟩, RI_cong rfl hst r0, RI_cong rfl hst r1, rt, rf, q0, q1, q2, q3, rl⟩
        · rw [fX5_back, if_neg (by decide), if_pos (by decide), gd, if_neg (by decide), if_neg (by rw [show vKe v (nI 0).toNatClampNeg = isKept 0 from w0, r]; decide), gd, if_neg (by decide)]
          show some (cSa i0, i0) = _
          rw [a2.2.2.1]
        · simp (disch := omega) only [fX6_back, nm_q, bd1_some, bd2_some, bd3_some, bd4_some, bd5_some, bd6_some, bd7_some, bd8_some, bd9_some, bd10_some, bd11_some, bd1_ite, ↓reduceIte, gd_nI, gb_nI, gb_ite, li, liL, nI_add, nI_1, pk_sub, pk_mul, pk_div, nI_clamp, nI_eq, nI_leI, nI_ltI, nI_eqn, nI_neq, nI_nn, nI_len, nI_ltn, ngI_le, ngI_lt, nng, sm10, sm8, shr_n, shl_n, and_1, fa_or, leT, leF, ltT, ltF, eqT, eqF, h3, r]
          rw [show nI (61 * (0 + 1)) = nI 61 from rfl, m_copies st (by omega) (by omega) (by omega), bd1_some]
          have m := m43.2.2.1
          simp only [Nat.reduceMul, Nat.reduceAdd] at m
          rw [m]
    · rcases r1.2 with r | ⟨r, K2, a1, a2, a3⟩
      · refine ⟨-nI 2, nw, st, ?_, ?_, hR0⟩
        · rw [fX5_back, if_neg (by decide), if_pos (by decide), gd, if_neg (by decide), if_pos (by rw [show vKe v (nI 1).toNatClampNeg = isKept 1 from w1]; exact r)]
          rfl
        · simp (disch := omega) only [fX6_back, nm_q, bd1_some, bd2_some, bd3_some, bd4_some, bd5_some, bd6_some, bd7_some, bd8_some, bd9_some, bd10_some, bd11_some, bd1_ite, ↓reduceIte, gd_nI, gb_nI, gb_ite, li, liL, nI_add, nI_1, pk_sub, pk_mul, pk_div, nI_clamp, nI_eq, nI_leI, nI_ltI, nI_eqn, nI_neq, nI_nn, nI_len, nI_ltn, ngI_le, ngI_lt, nng, sm10, sm8, shr_n, shl_n, and_1, fa_or, leT, leF, ltT, ltF, eqT, eqF, h3, r]
      · have m43 := RCm0 (RCm_move a1 hst2 a3)
        refine ⟨nI (kN K2), i1, fb_put st (fun i => st (122 + i)) 0 61, ?_, ?_, ⟨K2, a1, a2, RCm_move a1 hst2 a3⟩, RI_cong rfl hst r0, RI_cong rfl hst r1, rt, rf, q0, q1, q2, q3, rl⟩
        · rw [fX5_back, if_neg (by decide), if_pos (by decide), gd, if_neg (by decide), if_neg (by rw [show vKe v (nI 1).toNatClampNeg = isKept 1 from w1, r]; decide), gd, if_neg (by decide)]
          show some (cSa i1, i1) = _
          rw [a2.2.2.1]
        · simp (disch := omega) only [fX6_back, nm_q, bd1_some, bd2_some, bd3_some, bd4_some, bd5_some, bd6_some, bd7_some, bd8_some, bd9_some, bd10_some, bd11_some, bd1_ite, ↓reduceIte, gd_nI, gb_nI, gb_ite, li, liL, nI_add, nI_1, pk_sub, pk_mul, pk_div, nI_clamp, nI_eq, nI_leI, nI_ltI, nI_eqn, nI_neq, nI_nn, nI_len, nI_ltn, ngI_le, ngI_lt, nng, sm10, sm8, shr_n, shl_n, and_1, fa_or, leT, leF, ltT, ltF, eqT, eqF, h3, r]
          rw [show nI (61 * (1 + 1)) = nI 122 from rfl, m_copies st (by omega) (by omega) (by omega), bd1_some]
          have m := m43.2.2.1
          simp only [Nat.reduceMul, Nat.reduceAdd] at m
          rw [m]
  · refine ⟨-nI 1, nw, st, ?_, ?_, hR0⟩
    · rw [fX5_back]
      by_cases c : p1 < 0
      · rw [if_pos c]; rfl
      · rw [if_neg c, if_neg]
        · rfl
        · rcases h1 with h1 | h1
          · exact absurd h1 c
          · rw [fa_lt, show (2 : Int32) = nI 2 from rfl, nI_toInt (by omega)]
            rw [fa_lt, nI_toInt (by omega)] at h1
            omega
    · simp (disch := omega) only [fX6_back, nm_q, bd1_some, bd2_some, bd3_some, bd4_some, bd5_some, bd6_some, bd7_some, bd8_some, bd9_some, bd10_some, bd11_some, bd1_ite, ↓reduceIte, gd_nI, gb_nI, gb_ite, li, liL, nI_add, nI_1, pk_sub, pk_mul, pk_div, nI_clamp, nI_eq, nI_leI, nI_ltI, nI_eqn, nI_neq, nI_nn, nI_len, nI_ltn, ngI_le, ngI_lt, nng, sm10, sm8, shr_n, shl_n, and_1, fa_or, leT, leF, ltT, ltF, eqT, eqF, h2]
