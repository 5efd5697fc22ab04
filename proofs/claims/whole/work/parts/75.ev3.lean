-- count; the calls that change the coast
theorem c_kept {v : VT} {a b : Int32} (ha : a = 0 ∨ a = 1) (hb : b = 0 ∨ b = 1) (h0 : vKe v 0 = a) (h1 : vKe v 1 = b) : fX5_imagesKept v = some (a + b) := by
  obtain ⟨F, hF⟩ : ∃ F, F = 4096 := ⟨_, rfl⟩
  rw [fX5_imagesKept, ← hF]
  obtain ⟨m, rfl⟩ : ∃ m, F = m + 3 := ⟨4093, by omega⟩
  rw [fX5_imagesKept_L4, if_neg (by decide)]
  rw [show gd 0 2 (if vKe v (0 : Int32).toNatClampNeg = 0 then nm ((0 : Int32) + 1) fun x7 => fX5_imagesKept_L4 v (fun v1 v2 => some v2) (m + 2) x7 0 else nm ((0 : Int32) + 1) fun x8 => nm ((0 : Int32) + 1) fun x9 => fX5_imagesKept_L4 v (fun v1 v2 => some v2) (m + 2) x9 x8) = fX5_imagesKept_L4 v (fun v1 v2 => some v2) (m + 2) 1 a by
    rw [gd, if_neg (by decide), show vKe v (0 : Int32).toNatClampNeg = a from h0]
    rcases ha with rfl | rfl
    · rw [if_pos rfl]; rfl
    · rw [if_neg (by decide)]; rfl]
  rw [fX5_imagesKept_L4, if_neg (by decide), gd, if_neg (by decide), show vKe v (1 : Int32).toNatClampNeg = b from h1]
  rcases hb with rfl | rfl
  · rw [if_pos rfl, nm, fX5_imagesKept_L4, if_pos (by decide), Int32.add_zero]
  · rw [if_neg (by decide), nm, nm, fX5_imagesKept_L4, if_pos (by decide)]
theorem flag_z {a : Int32} (ha : a = 0 ∨ a = 1) : fX6_flag a = some a := by
  rcases ha with rfl | rfl <;> decide
theorem ev_count (v : VT) (rd : RT) (dr : CT) (nw : CT) (tr : CT) (da : DT) (i0 : CT) (i1 : CT) (s0 : ST) (s1 : ST) (s2 : ST) (s3 : ST) (st : AI) (now : AI) (isKept : AI) (hearers : Int32) (draft : AI) (dHearers : Int32) (dWalls : Int32) (toldWinds : Int32) (tape : AI) (taped : Int32) (pos : Int32) (frm : Int32) (sort : Int32) (value : Int32) (fault : Int32) (wrongAt : Int32) (landed : AI) (landedIn : AI) (stepped : AI) (isThere : AI) (isAt : AI) (isNext : AI) (landSum : Int64) (heardSum : Int64) (allWays : Int64) (ways : AI) (drawn : AI) (lanes : AI) (sizes : AI) (cells : AI) (torn : Int32) (before : AI) (hR : Rel v rd nw i0 i1 s0 s1 s2 s3 st isKept hearers tape taped fault lanes sizes cells torn) (p1 : Int32) : ∃ (res : Int32) (now_x : AI), fX5_count p1 v rd nw s0 = some res ∧ fX6_count p1 st now isKept taped lanes sizes = some (res, now_x) ∧ (Rel v rd nw i0 i1 s0 s1 s2 s3 st isKept hearers tape taped fault lanes sizes cells torn) := by
  have hR0 := hR
  obtain ⟨⟨K, hK, hc, hm⟩, r0, r1, rt, rf, q0, q1, q2, q3, rl⟩ := hR
  have hm0 := RCm0 hm
  have hn := RN_starts now hK hm
  have hN := WF_N hK
  obtain ⟨n, hn2, e1, e2, _⟩ := rt
  have z0 : isKept 0 = 0 ∨ isKept 0 = 1 := r0.2.imp id (fun q => q.1)
  have z1 : isKept 1 = 0 ∨ isKept 1 = 1 := r1.2.imp id (fun q => q.1)
  have key : ∀ r, (if p1 = 0 then nI (kS K) else if p1 = 1 then isKept 0 + isKept 1 else if p1 = 2 then nI n else if p1 = 3 then (if sIs s0 = 0 then -4 else sSz s0) else if p1 = 4 then nI (frcS K) else -1) = r → fX5_count p1 v rd nw s0 = some r ∧ fX6_count p1 st now isKept taped lanes sizes = some (r, fa_fill st now 61) := by
    intro r hr
    obtain ⟨F, hF⟩ : ∃ F, F = 4096 := ⟨_, rfl⟩
    rw [fX6_count, m_starts, bd1_some, ← hF, m_forcesAll hN hn _ F (by omega), fX5_count]
    by_cases c0 : p1 = 0
    · rw [if_pos c0] at hr ⊢
      rw [if_pos c0, ← hr, hc.2.2.2.2.2.2.1]
      simp only [nm, hm0.2.2.2.2.2.2.1, true_and]
    · rw [if_neg c0] at hr ⊢
      rw [if_neg c0]
      by_cases c1 : p1 = 1
      · rw [if_pos c1] at hr ⊢
        rw [if_pos c1, ← hr, c_kept z0 z1 r0.1 r1.1, nm, flag_z z0, bd1_some, bd1_some, nm, flag_z z1]
        exact ⟨rfl, rfl⟩
      · rw [if_neg c1] at hr ⊢
        rw [if_neg c1]
        by_cases c2 : p1 = 2
        · rw [if_pos c2] at hr ⊢
          rw [if_pos c2, ← hr, e1, e2]
          exact ⟨rfl, rfl⟩
        · rw [if_neg c2] at hr ⊢
          rw [if_neg c2]
          by_cases c3 : p1 = 3
          · rw [if_pos c3] at hr ⊢
            rw [if_pos c3, ← hr]
            rcases q0.1 with ⟨a1, a2⟩ | ⟨a1, ⟨q, hq, _, a2⟩, n', hn', a3, a4⟩
            · rw [if_pos a1, if_pos a1, nm, a2]
              exact ⟨rfl, rfl⟩
            · rw [if_neg (by rw [a1]; decide), if_neg (by rw [a1]; decide), nm, nm, a2, if_neg (by rw [show (-4 : Int32) = -nI 4 from rfl, nI_eqn (by omega) (by omega) (by omega)]; exact fun h => h), a3, a4]
              exact ⟨rfl, rfl⟩
          · rw [if_neg c3] at hr ⊢
            rw [if_neg c3]
            by_cases c4 : p1 = 4
            · rw [if_pos c4] at hr ⊢
              rw [if_pos c4, ← hr, c_forcesAll hN hc]
              exact ⟨rfl, rfl⟩
            · rw [if_neg c4] at hr ⊢
              rw [if_neg c4, ← hr]
              exact ⟨rfl, rfl⟩
  obtain ⟨k1, k2⟩ := key _ rfl
  exact ⟨_, _, k1, k2, hR0⟩
theorem can (j : Nat) (hj : j ≤ 4) (p : Int32) : (∃ v, okV j v ∧ p = nI (tvk j v) ∧ fX3_fits (nI j) p = some (nI 1) ∧ fX6_canBe (nI j) p = some (nI 1)) ∨ (fX3_fits (nI j) p = some (nI 0) ∧ fX6_canBe (nI j) p = some (nI 0)) := by
  have hj2 : j = 0 ∨ j = 1 ∨ j = 2 ∨ j = 3 ∨ j = 4 := by omega
  rcases hj2 with rfl | rfl | rfl | rfl | rfl
  · rcases c_fits 0 (by omega) p with ⟨v, h1, h2, h3, f1, f2⟩ | ⟨f1, f2⟩
    · refine Or.inl ⟨v, ⟨fun _ => h2, by omega, by omega, by omega, by omega⟩, h3, f1, ?_⟩
      have f2 : fX6_in p.toInt64 (lN 0) (lN 3) = some (nI 1) := f2
      simp (disch := omega) only [fX6_canBe, nm_q, bd1_some, bd2_some, bd3_some, bd4_some, bd5_some, bd6_some, bd7_some, bd8_some, bd9_some, bd10_some, bd11_some, bd1_ite, ↓reduceIte, gd_nI, gb_nI, gb_ite, li, liL, nI_add, nI_1, pk_sub, pk_mul, pk_div, nI_clamp, nI_eq, nI_leI, nI_ltI, nI_eqn, nI_neq, nI_nn, nI_len, nI_ltn, ngI_le, ngI_lt, nng, sm10, sm8, shr_n, shl_n, and_1, fa_or, leT, leF, ltT, ltF, eqT, eqF, f2]
    · have f2 : fX6_in p.toInt64 (lN 0) (lN 3) = some (nI 0) := f2
      exact Or.inr ⟨f1, by simp (disch := omega) only [fX6_canBe, nm_q, bd1_some, bd2_some, bd3_some, bd4_some, bd5_some, bd6_some, bd7_some, bd8_some, bd9_some, bd10_some, bd11_some, bd1_ite, ↓reduceIte, gd_nI, gb_nI, gb_ite, li, liL, nI_add, nI_1, pk_sub, pk_mul, pk_div, nI_clamp, nI_eq, nI_leI, nI_ltI, nI_eqn, nI_neq, nI_nn, nI_len, nI_ltn, ngI_le, ngI_lt, nng, sm10, sm8, shr_n, shl_n, and_1, fa_or, leT, leF, ltT, ltF, eqT, eqF, f2]⟩
  · rcases isC p with ⟨v, h1, h3, f1, f2⟩ | ⟨f1, f2⟩
    · refine Or.inl ⟨v, ⟨by omega, fun _ => h1, by omega, by omega, by omega⟩, h3, ?_, ?_⟩
      · simp (disch := omega) only [fX3_fits, nm_q, bd1_some, bd2_some, bd3_some, bd4_some, bd5_some, bd6_some, bd7_some, bd8_some, bd9_some, bd10_some, bd11_some, bd1_ite, ↓reduceIte, gd_nI, gb_nI, gb_ite, li, liL, nI_add, nI_1, pk_sub, pk_mul, pk_div, nI_clamp, nI_eq, nI_leI, nI_ltI, nI_eqn, nI_neq, nI_nn, nI_len, nI_ltn, ngI_le, ngI_lt, nng, sm10, sm8, shr_n, shl_n, and_1, fa_or, leT, leF, ltT, ltF, eqT, eqF, f1]
      · simp (disch := omega) only [fX6_canBe, nm_q, bd1_some, bd2_some, bd3_some, bd4_some, bd5_some, bd6_some, bd7_some, bd8_some, bd9_some, bd10_some, bd11_some, bd1_ite, ↓reduceIte, gd_nI, gb_nI, gb_ite, li, liL, nI_add, nI_1, pk_sub, pk_mul, pk_div, nI_clamp, nI_eq, nI_leI, nI_ltI, nI_eqn, nI_neq, nI_nn, nI_len, nI_ltn, ngI_le, ngI_lt, nng, sm10, sm8, shr_n, shl_n, and_1, fa_or, leT, leF, ltT, ltF, eqT, eqF, f2]
    · refine Or.inr ⟨?_, ?_⟩
      · simp (disch := omega) only [fX3_fits, nm_q, bd1_some, bd2_some, bd3_some, bd4_some, bd5_some, bd6_some, bd7_some, bd8_some, bd9_some, bd10_some, bd11_some, bd1_ite, ↓reduceIte, gd_nI, gb_nI, gb_ite, li, liL, nI_add, nI_1, pk_sub, pk_mul, pk_div, nI_clamp, nI_eq, nI_leI, nI_ltI, nI_eqn, nI_neq, nI_nn, nI_len, nI_ltn, ngI_le, ngI_lt, nng, sm10, sm8, shr_n, shl_n, and_1, fa_or, leT, leF, ltT, ltF, eqT, eqF, f1]
      · simp (disch := omega) only [fX6_canBe, nm_q, bd1_some, bd2_some, bd3_some, bd4_some, bd5_some, bd6_some, bd7_some, bd8_some, bd9_some, bd10_some, bd11_some, bd1_ite, ↓reduceIte, gd_nI, gb_nI, gb_ite, li, liL, nI_add, nI_1, pk_sub, pk_mul, pk_div, nI_clamp, nI_eq, nI_leI, nI_ltI, nI_eqn, nI_neq, nI_nn, nI_len, nI_ltn, ngI_le, ngI_lt, nng, sm10, sm8, shr_n, shl_n, and_1, fa_or, leT, leF, ltT, ltF, eqT, eqF, f2]
  · rcases c_fits 2 (by omega) p with ⟨v, h1, h2, h3, f1, f2⟩ | ⟨f1, f2⟩
    · refine Or.inl ⟨v, ⟨by omega, by omega, fun _ => h2, by omega, by omega⟩, h3, f1, ?_⟩
      have f2 : fX6_in p.toInt64 (lN 0) (lN 3) = some (nI 1) := f2
      simp (disch := omega) only [fX6_canBe, nm_q, bd1_some, bd2_some, bd3_some, bd4_some, bd5_some, bd6_some, bd7_some, bd8_some, bd9_some, bd10_some, bd11_some, bd1_ite, ↓reduceIte, gd_nI, gb_nI, gb_ite, li, liL, nI_add, nI_1, pk_sub, pk_mul, pk_div, nI_clamp, nI_eq, nI_leI, nI_ltI, nI_eqn, nI_neq, nI_nn, nI_len, nI_ltn, ngI_le, ngI_lt, nng, sm10, sm8, shr_n, shl_n, and_1, fa_or, leT, leF, ltT, ltF, eqT, eqF, f2]
    · have f2 : fX6_in p.toInt64 (lN 0) (lN 3) = some (nI 0) := f2
      exact Or.inr ⟨f1, by simp (disch := omega) only [fX6_canBe, nm_q, bd1_some, bd2_some, bd3_some, bd4_some, bd5_some, bd6_some, bd7_some, bd8_some, bd9_some, bd10_some, bd11_some, bd1_ite, ↓reduceIte, gd_nI, gb_nI, gb_ite, li, liL, nI_add, nI_1, pk_sub, pk_mul, pk_div, nI_clamp, nI_eq, nI_leI, nI_ltI, nI_eqn, nI_neq, nI_nn, nI_len, nI_ltn, ngI_le, ngI_lt, nng, sm10, sm8, shr_n, shl_n, and_1, fa_or, leT, leF, ltT, ltF, eqT, eqF, f2]⟩
  · rcases c_fits 3 (by omega) p with ⟨v, h1, h2, h3, f1, f2⟩ | ⟨f1, f2⟩
    · refine Or.inl ⟨v, ⟨by omega, by omega, by omega, fun _ => ⟨h1, h2⟩, by omega⟩, h3, f1, ?_⟩
      have f2 : fX6_in p.toInt64 (lN 1) (lN 9) = some (nI 1) := f2
      simp (disch := omega) only [fX6_canBe, nm_q, bd1_some, bd2_some, bd3_some, bd4_some, bd5_some, bd6_some, bd7_some, bd8_some, bd9_some, bd10_some, bd11_some, bd1_ite, ↓reduceIte, gd_nI, gb_nI, gb_ite, li, liL, nI_add, nI_1, pk_sub, pk_mul, pk_div, nI_clamp, nI_eq, nI_leI, nI_ltI, nI_eqn, nI_neq, nI_nn, nI_len, nI_ltn, ngI_le, ngI_lt, nng, sm10, sm8, shr_n, shl_n, and_1, fa_or, leT, leF, ltT, ltF, eqT, eqF, f2]
    · have f2 : fX6_in p.toInt64 (lN 1) (lN 9) = some (nI 0) := f2
      exact Or.inr ⟨f1, by simp (disch := omega) only [fX6_canBe, nm_q, bd1_some, bd2_some, bd3_some, bd4_some, bd5_some, bd6_some, bd7_some, bd8_some, bd9_some, bd10_some, bd11_some, bd1_ite, ↓reduceIte, gd_nI, gb_nI, gb_ite, li, liL, nI_add, nI_1, pk_sub, pk_mul, pk_div, nI_clamp, nI_eq, nI_leI, nI_ltI, nI_eqn, nI_neq, nI_nn, nI_len, nI_ltn, ngI_le, ngI_lt, nng, sm10, sm8, shr_n, shl_n, and_1, fa_or, leT, leF, ltT, ltF, eqT, eqF, f2]⟩
  · rcases c_fits 4 (by omega) p with ⟨v, h1, h2, h3, f1, f2⟩ | ⟨f1, f2⟩
    · refine Or.inl ⟨v, ⟨by omega, by omega, by omega, by omega, fun _ => h2⟩, h3, f1, ?_⟩
      have f2 : fX6_in p.toInt64 (lN 0) (lN 9) = some (nI 1) := f2
      simp (disch := omega) only [fX6_canBe, nm_q, bd1_some, bd2_some, bd3_some, bd4_some, bd5_some, bd6_some, bd7_some, bd8_some, bd9_some, bd10_some, bd11_some, bd1_ite, ↓reduceIte, gd_nI, gb_nI, gb_ite, li, liL, nI_add, nI_1, pk_sub, pk_mul, pk_div, nI_clamp, nI_eq, nI_leI, nI_ltI, nI_eqn, nI_neq, nI_nn, nI_len, nI_ltn, ngI_le, ngI_lt, nng, sm10, sm8, shr_n, shl_n, and_1, fa_or, leT, leF, ltT, ltF, eqT, eqF, f2]
    · have f2 : fX6_in p.toInt64 (lN 0) (lN 9) = some (nI 0) := f2
      exact Or.inr ⟨f1, by simp (disch := omega) only [fX6_canBe, nm_q, bd1_some, bd2_some, bd3_some, bd4_some, bd5_some, bd6_some, bd7_some, bd8_some, bd9_some, bd10_some, bd11_some, bd1_ite, ↓reduceIte, gd_nI, gb_nI, gb_ite, li, liL, nI_add, nI_1, pk_sub, pk_mul, pk_div, nI_clamp, nI_eq, nI_leI, nI_ltI, nI_eqn, nI_neq, nI_nn, nI_len, nI_ltn, ngI_le, ngI_lt, nng, sm10, sm8, shr_n, shl_n, and_1, fa_or, leT, leF, ltT, ltF, eqT, eqF, f2]⟩
theorem can_out {p q : Int32} (h : p < nI 0 ∨ nI 4 < p) : fX6_canBe p q = some (nI 0) := by
  have ne : ∀ j, j ≤ 4 → ¬ p = nI j := fun j hj e => by
    subst e
    rcases h with h | h
    · exact nI_pos (show j < 2 ^ 31 by omega) h
    · rw [fa_lt, nI_toInt (by omega), nI_toInt (by omega)] at h
      omega
  unfold fX6_canBe
  rw [if_neg (show ¬ p = 0 from ne 0 (by omega)), if_neg (show ¬ p = 1 from ne 1 (by omega)), if_neg (show ¬ p = 2 from ne 2 (by omega)), if_neg (show ¬ p = 3 from ne 3 (by omega)), if_neg (show ¬ p = 4 from ne 4 (by omega))]
  rfl
theorem m_becomes {k : Nat} (x : Int32) (st : AI) (hk : k < 183) : fX6_becomes (nI k) x st = some (st k, upd st k x) := by
  simp (disch := omega) only [fX6_becomes, nm_q, bd1_some, bd2_some, bd3_some, bd4_some, bd5_some, bd6_some, bd7_some, bd8_some, bd9_some, bd10_some, bd11_some, bd1_ite, ↓reduceIte, gd_nI, gb_nI, gb_ite, li, liL, nI_add, nI_1, pk_sub, pk_mul, pk_div, nI_clamp, nI_eq, nI_leI, nI_ltI, nI_eqn, nI_neq, nI_nn, nI_len, nI_ltn, ngI_le, ngI_lt, nng, sm10, sm8, shr_n, shl_n, and_1, fa_or]
theorem upd61 {st : AI} {k : Nat} (x : Int32) (hk : k < 61) : ∀ j, 61 ≤ j → upd st k x j = st j := fun j hj => pk_un (by omega)
theorem ev_alter (v : VT) (rd : RT) (dr : CT) (nw : CT) (tr : CT) (da : DT) (i0 : CT) (i1 : CT) (s0 : ST) (s1 : ST) (s2 : ST) (s3 : ST) (st : AI) (now : AI) (isKept : AI) (hearers : Int32) (draft : AI) (dHearers : Int32) (dWalls : Int32) (toldWinds : Int32) (tape : AI) (taped : Int32) (pos : Int32) (frm : Int32) (sort : Int32) (value : Int32) (fault : Int32) (wrongAt : Int32) (landed : AI) (landedIn : AI) (stepped : AI) (isThere : AI) (isAt : AI) (isNext : AI) (landSum : Int64) (heardSum : Int64) (allWays : Int64) (ways : AI) (drawn : AI) (lanes : AI) (sizes : AI) (cells : AI) (torn : Int32) (before : AI) (hR : Rel v rd nw i0 i1 s0 s1 s2 s3 st isKept hearers tape taped fault lanes sizes cells torn) (p1 : Int32) (p2 : Int32) (p3 : Int32) : ∃ (res : Int32) (nw_x : CT) (st_x : AI), fX5_alter p1 p2 p3 v nw = some (res, nw_x) ∧ fX6_alter p1 p2 p3 st = some (res, st_x) ∧ (Rel v rd nw_x i0 i1 s0 s1 s2 s3 st_x isKept hearers tape taped fault lanes sizes cells torn) := by
  have hR0 := hR
  obtain ⟨⟨K, hK, hc, hm⟩, r0, r1, rt, rf, q0, q1, q2, q3, rl⟩ := hR
  have hm0 := RCm0 hm
  have hN := WF_N hK
  rcases isSay hN hc.2.2.1 hm0.2.2.1 p1 with ⟨s, hs, rfl, f1, f2⟩ | ⟨f1, f2⟩
  · rcases rg p2 4 (by omega) with ⟨j, hj, rfl⟩ | h1
    · rcases can j hj p3 with ⟨w, hw, rfl, g1, g2⟩ | ⟨g1, g2⟩
      · refine ⟨nI (tv (kT K s) j), cTo' nw (va_up (cTo nw) s (upd (cTo nw s) j (nI (tvk j w)))), upd st (18 + 5 * s + j) (nI (tvk j w)), ?_, ?_, ⟨setT K s j w, WF_set hK hs hw, RCc_set hc, RCm_set hK hs (by omega) hm⟩, RI_cong rfl (upd61 _ (by omega)) r0, RI_cong rfl (upd61 _ (by omega)) r1, rt, rf, q0, q1, q2, q3, rl⟩
        · simp (disch := omega) only [fX5_alter, f1, nm_q, bd1_some, bd2_some, bd3_some, bd4_some, bd5_some, bd6_some, bd7_some, bd8_some, bd9_some, bd10_some, bd11_some, bd1_ite, ↓reduceIte, gd_nI, gb_nI, gb_ite, li, liL, nI_add, nI_1, pk_sub, pk_mul, pk_div, nI_clamp, nI_eq, nI_leI, nI_ltI, nI_eqn, nI_neq, nI_nn, nI_len, nI_ltn, ngI_le, ngI_lt, nng, sm10, sm8, shr_n, shl_n, and_1, fa_or, leT, leF, ltT, ltF, eqT, eqF, g1, hc.2.2.2.1 s hs j (by omega)]
        · simp (disch := omega) only [fX6_alter, f2, nm_q, bd1_some, bd2_some, bd3_some, bd4_some, bd5_some, bd6_some, bd7_some, bd8_some, bd9_some, bd10_some, bd11_some, bd1_ite, ↓reduceIte, gd_nI, gb_nI, gb_ite, li, liL, nI_add, nI_1, pk_sub, pk_mul, pk_div, nI_clamp, nI_eq, nI_leI, nI_ltI, nI_eqn, nI_neq, nI_nn, nI_len, nI_ltn, ngI_le, ngI_lt, nng, sm10, sm8, shr_n, shl_n, and_1, fa_or, leT, leF, ltT, ltF, eqT, eqF, g2, m_becomes, hm0.2.2.2.1 s hs j (by omega)]
      · refine ⟨-nI 1, nw, st, ?_, ?_, hR0⟩
        · simp (disch := omega) only [fX5_alter, f1, nm_q, bd1_some, bd2_some, bd3_some, bd4_some, bd5_some, bd6_some, bd7_some, bd8_some, bd9_some, bd10_some, bd11_some, bd1_ite, ↓reduceIte, gd_nI, gb_nI, gb_ite, li, liL, nI_add, nI_1, pk_sub, pk_mul, pk_div, nI_clamp, nI_eq, nI_leI, nI_ltI, nI_eqn, nI_neq, nI_nn, nI_len, nI_ltn, ngI_le, ngI_lt, nng, sm10, sm8, shr_n, shl_n, and_1, fa_or, leT, leF, ltT, ltF, eqT, eqF, g1]
        · simp (disch := omega) only [fX6_alter, f2, nm_q, bd1_some, bd2_some, bd3_some, bd4_some, bd5_some, bd6_some, bd7_some, bd8_some, bd9_some, bd10_some, bd11_some, bd1_ite, ↓reduceIte, gd_nI, gb_nI, gb_ite, li, liL, nI_add, nI_1, pk_sub, pk_mul, pk_div, nI_clamp, nI_eq, nI_leI, nI_ltI, nI_eqn, nI_neq, nI_nn, nI_len, nI_ltn, ngI_le, ngI_lt, nng, sm10, sm8, shr_n, shl_n, and_1, fa_or, leT, leF, ltT, ltF, eqT, eqF, g2]
    · refine ⟨-nI 1, nw, st, ?_, ?_, hR0⟩
      · rw [fX5_alter, f1, bd1_some, if_neg (show ¬ nI 1 = 0 from n10)]
        exact rgB (b := 4) _ _ (by omega) h1
      · simp (disch := omega) only [fX6_alter, f2, nm_q, bd1_some, bd2_some, bd3_some, bd4_some, bd5_some, bd6_some, bd7_some, bd8_some, bd9_some, bd10_some, bd11_some, bd1_ite, ↓reduceIte, gd_nI, gb_nI, gb_ite, li, liL, nI_add, nI_1, pk_sub, pk_mul, pk_div, nI_clamp, nI_eq, nI_leI, nI_ltI, nI_eqn, nI_neq, nI_nn, nI_len, nI_ltn, ngI_le, ngI_lt, nng, sm10, sm8, shr_n, shl_n, and_1, fa_or, leT, leF, ltT, ltF, eqT, eqF, can_out h1]
  · refine ⟨-nI 1, nw, st, ?_, ?_, hR0⟩
    · simp (disch := omega) only [fX5_alter, f1, nm_q, bd1_some, bd2_some, bd3_some, bd4_some, bd5_some, bd6_some, bd7_some, bd8_some, bd9_some, bd10_some, bd11_some, bd1_ite, ↓reduceIte, gd_nI, gb_nI, gb_ite, li, liL, nI_add, nI_1, pk_sub, pk_mul, pk_div, nI_clamp, nI_eq, nI_leI, nI_ltI, nI_eqn, nI_neq, nI_nn, nI_len, nI_ltn, ngI_le, ngI_lt, nng, sm10, sm8, shr_n, shl_n, and_1, fa_or, leT, leF, ltT, ltF, eqT, eqF]
    · simp (disch := omega) only [fX6_alter, f2, nm_q, bd1_some, bd2_some, bd3_some, bd4_some, bd5_some, bd6_some, bd7_some, bd8_some, bd9_some, bd10_some, bd11_some, bd1_ite, ↓reduceIte, gd_nI, gb_nI, gb_ite, li, liL, nI_add, nI_1, pk_sub, pk_mul, pk_div, nI_clamp, nI_eq, nI_leI, nI_ltI, nI_eqn, nI_neq, nI_nn, nI_len, nI_ltn, ngI_le, ngI_lt, nng, sm10, sm8, shr_n, shl_n, and_1, fa_or, leT, leF, ltT, ltF, eqT, eqF]
