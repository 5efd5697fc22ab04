-- look, as a whole
theorem m_ways0 (ways : AI) (C : Int32 → AI → Option (Int32 × AI × AI × AI × AI × AI)) (F : Nat) (hF : 400 < F) : fX6_look_L26 C F 0 ways = C (nI 400) (fa_fill (fun _ => nI 0) ways 400) := by
  refine solo (fun n (t : Int32 × AI) => fX6_look_L26 C n t.1 t.2) (fun i t => t = (nI i, fa_fill (fun _ => nI 0) ways i)) (fun x => x = C (nI 400) (fa_fill (fun _ => nI 0) ways 400)) 400 ?_ ?_ 400 0 F (nI 0, ways) (by omega) (by omega) (by rw [fa_fill_0])
  · rintro i t n hi rfl ih
    have := ih _ rfl
    rw [← fa_fill_succ] at this
    show fX6_look_L26 C (n + 1) (nI i) (fa_fill (fun _ => nI 0) ways i) = _
    rw [fX6_look_L26]
    simp (disch := omega) only [nm_q, bd1_some, bd2_some, bd3_some, bd4_some, bd5_some, bd6_some, bd7_some, bd8_some, bd9_some, bd10_some, bd11_some, bd1_ite, ↓reduceIte, gd_nI, gb_nI, gb_ite, li, liL, nI_add, nI_1, pk_sub, pk_mul, pk_div, nI_clamp, nI_eq, nI_leI, nI_ltI, nI_eqn, nI_neq, nI_nn, nI_len, nI_ltn, ngI_le, ngI_lt, nng, sm10, sm8, shr_n, shl_n, and_1, fa_or, leT, leF, ltT, ltF, eqT, eqF]
    exact this
  · rintro t n rfl
    show fX6_look_L26 C (n + 1) (nI 400) (fa_fill (fun _ => nI 0) ways 400) = _
    rw [fX6_look_L26]
    simp (disch := omega) only [nm_q, bd1_some, bd2_some, bd3_some, bd4_some, bd5_some, bd6_some, bd7_some, bd8_some, bd9_some, bd10_some, bd11_some, bd1_ite, ↓reduceIte, gd_nI, gb_nI, gb_ite, li, liL, nI_add, nI_1, pk_sub, pk_mul, pk_div, nI_clamp, nI_eq, nI_leI, nI_ltI, nI_eqn, nI_neq, nI_nn, nI_len, nI_ltn, ngI_le, ngI_lt, nng, sm10, sm8, shr_n, shl_n, and_1, fa_or, leT, leF, ltT, ltF, eqT, eqF]
/-- how many forces below n are as SEEN -/
def soC (K : KT) (s n : Nat) : Nat := ct (fun f => decide (1 ≤ f) && soB K s 3 f) n
theorem m_L51 {K : KT} {s : Nat} {st : AI} {h : Int32} (hK : WFk K) (hm : RCm K st 0 h) (hs : s < kN K) (P : Option (Int32 × AI × AI × AI × AI × AI) → Prop) (B : Int32 → Int32 → AI → AI → AI → AI → AI → Option (Int32 × AI × AI × AI × AI × AI)) (hE : ∀ now la lh ls ways, WY K s (fun _ => 10) ways → P (B (nI 10) (nI (soC K s 10)) now la lh ls ways)) (F : Nat) (hF : 10 < F) (now la lh ls ways : AI) (hw : WY K s (fun _ => 1) ways) : P (fX6_look_L51 st (nI s) B F 1 0 now la lh ls ways) := by
  have hN := WF_N hK
  have e43 := (RCm0 hm).2.2.1
  refine solo (fun n (t : Int32 × Int32 × AI × AI × AI × AI × AI) => fX6_look_L51 st (nI s) B n t.1 t.2.1 t.2.2.1 t.2.2.2.1 t.2.2.2.2.1 t.2.2.2.2.2.1 t.2.2.2.2.2.2) (fun i t => 1 ≤ i ∧ t.1 = nI i ∧ t.2.1 = nI (soC K s i) ∧ WY K s (fun _ => i) t.2.2.2.2.2.2) P 10 ?_ ?_ 9 1 F (nI 1, nI 0, now, la, lh, ls, ways) (by omega) (by omega) ⟨by omega, rfl, rfl, hw⟩
  · rintro i ⟨x1, x2, now, la, lh, ls, ways⟩ n hi ⟨e0, e1, e2, e3⟩ ih
    simp only at e1 e2 e3 ⊢
    subst e1 e2
    obtain ⟨G, hG⟩ : ∃ G, G = 4096 := ⟨_, rfl⟩
    obtain ⟨n', la', lh', ls', k1, k2⟩ := m_isSo now la lh ls hK hm hs (show 3 < 5 by omega) (ok3 e0 (show i ≤ 9 by omega))
    rw [show tvk 3 i = i from rfl] at k1
    rw [fX6_look_L51, ← hG]
    have hct : soC K s (i + 1) = soC K s i + (if (decide (1 ≤ i) && soB K s 3 i) then 1 else 0) := rfl
    cases eb : soB K s 3 i with
    | true =>
      rw [eb] at k1 hct
      rw [if_pos (by simp [e0])] at hct
      simp (disch := omega) only [nm_q, bd1_some, bd2_some, bd3_some, bd4_some, bd5_some, bd6_some, bd7_some, bd8_some, bd9_some, bd10_some, bd11_some, bd1_ite, ↓reduceIte, gd_nI, gb_nI, gb_ite, li, liL, nI_add, nI_1, pk_sub, pk_mul, pk_div, nI_clamp, nI_eq, nI_leI, nI_ltI, nI_eqn, nI_neq, nI_nn, nI_len, nI_ltn, ngI_le, ngI_lt, nng, sm10, sm8, shr_n, shl_n, and_1, fa_or, leT, leF, ltT, ltF, eqT, eqF, k1, tt_i]
      refine m_ways hN e43 eb e0 (by omega) (fun u hu => ⟨(k2.2 u hu).1, (k2.2 u hu).2.1⟩) P _ ?_ G (by omega) ways e3
      intro ways hw
      have := ih (nI (i + 1), nI (soC K s (i + 1)), n', la', lh', ls', ways) ⟨by omega, rfl, rfl, hw⟩
      rw [hct] at this
      exact this
    | false =>
      rw [eb] at k1 hct
      rw [if_neg (by simp), Nat.add_zero] at hct
      simp (disch := omega) only [nm_q, bd1_some, bd2_some, bd3_some, bd4_some, bd5_some, bd6_some, bd7_some, bd8_some, bd9_some, bd10_some, bd11_some, bd1_ite, ↓reduceIte, gd_nI, gb_nI, gb_ite, li, liL, nI_add, nI_1, pk_sub, pk_mul, pk_div, nI_clamp, nI_eq, nI_leI, nI_ltI, nI_eqn, nI_neq, nI_nn, nI_len, nI_ltn, ngI_le, ngI_lt, nng, sm10, sm8, shr_n, shl_n, and_1, fa_or, leT, leF, ltT, ltF, eqT, eqF, k1, ff_i]
      have := ih (nI (i + 1), nI (soC K s (i + 1)), n', la', lh', ls', ways) ⟨by omega, rfl, rfl, fun u hu c hc => by
        show ways (80 * u + c) = nI (wy K s u c (i + 1))
        rw [wy_no (Or.inl eb)]; exact e3 u hu c hc⟩
      rw [hct] at this
      exact this
  · rintro ⟨x1, x2, now, la, lh, ls, ways⟩ n ⟨e0, e1, e2, e3⟩
    simp only at e1 e2 e3 ⊢
    subst e1 e2
    rw [fX6_look_L51]
    simp (disch := omega) only [nm_q, bd1_some, bd2_some, bd3_some, bd4_some, bd5_some, bd6_some, bd7_some, bd8_some, bd9_some, bd10_some, bd11_some, bd1_ite, ↓reduceIte, gd_nI, gb_nI, gb_ite, li, liL, nI_add, nI_1, pk_sub, pk_mul, pk_div, nI_clamp, nI_eq, nI_leI, nI_ltI, nI_eqn, nI_neq, nI_nn, nI_len, nI_ltn, ngI_le, ngI_lt, nng, sm10, sm8, shr_n, shl_n, and_1, fa_or, leT, leF, ltT, ltF, eqT, eqF]
    exact hE _ _ _ _ _ e3
theorem soC_m (K : KT) (s : Nat) : ct (fun k => (soM K s 3 1 9).testBit k) 10 = soC K s 10 := ct_cong fun k hk => by
  unfold soM
  rw [bs_tb]
  have : k < 9 + 1 := by omega
  simp [this]
def lkI (v : VT) (i : Nat) (x : Int32 × Int32 × Int32 × VT × CT × DT) (y : Int32 × Int32 × Int32) : Prop := x.1 = nI i ∧ y.1 = nI i ∧ ∃ m, m ≤ 10 ∧ x.2.1 = nI m ∧ y.2.2 = nI m ∧ y.2.1 = x.2.2.1 ∧ (x.2.2.1 = -nI 4 ∨ ∃ b, b < 5 ∧ x.2.2.1 = nI b) ∧ x.2.2.2.1.2 = v.2
theorem look_lk {K : KT} {s : Nat} {nw : CT} {st ways : AI} {h : Int32} (v : VT) (hK : WFk K) (hc : RCc K nw) (hm : RCm K st 0 h) (hs : s < kN K) (hw : WY K s (fun _ => 10) ways) (A : Int32 → Int32 → Int32 → VT → CT → DT → Option (Int32 × VT × CT × DT)) (B : Int32 → Int32 → Int32 → Option (Int32 × AI × AI × AI × AI × AI)) (P : Option (Int32 × VT × CT × DT) → Option (Int32 × AI × AI × AI × AI × AI) → Prop) (hE : ∀ x y, lkI v (kN K) x y → P (A x.1 x.2.1 x.2.2.1 x.2.2.2.1 x.2.2.2.2.1 x.2.2.2.2.2) (B y.1 y.2.1 y.2.2)) (F : Nat) (hF : 10 < F) (tr : CT) (da : DT) (m : Nat) (hm10 : m ≤ 10) : P (fX5_look_L45 nw (nI s) (nI (soM K s 3 1 9)) A F 0 (nI m) (-4) v tr da) (fX6_look_L124 st ways B F 0 (-4) (nI m)) := by
  have hN := WF_N hK
  have e43 := (RCm0 hm).2.2.1
  have eSa := hc.2.2.1
  refine lock (fun n (t : Int32 × Int32 × Int32 × VT × CT × DT) => fX5_look_L45 nw (nI s) (nI (soM K s 3 1 9)) A n t.1 t.2.1 t.2.2.1 t.2.2.2.1 t.2.2.2.2.1 t.2.2.2.2.2) (fun n (t : Int32 × Int32 × Int32) => fX6_look_L124 st ways B n t.1 t.2.1 t.2.2) (lkI v) P (kN K) ?_ ?_ (kN K) 0 F F (0, nI m, -4, v, tr, da) (0, -4, nI m) (by omega) (by omega) (by omega) ⟨rfl, rfl, m, hm10, rfl, rfl, rfl, Or.inl rfl, rfl⟩
  · rintro i ⟨x1, x2, x3, v1, tr, da⟩ ⟨y1, y2, y3⟩ n n' hi ⟨e1, e2, m, e3, e4, e5, e6, e7, e8⟩ ih
    simp only at e1 e2 e4 e5 e6 e7 e8 ⊢
    subst e1 e2 e4 e5 e6
    obtain ⟨G, hG⟩ : ∃ G, G = 4096 := ⟨_, rfl⟩
    obtain ⟨m1, v', tr', da', g1, g2, g3, g4⟩ := c_mostLeft v1 tr da hK hc hs hi
    rw [fX5_look_L45, fX6_look_L124, ← hG]
    simp (disch := omega) only [nm_q, bd1_some, bd2_some, bd3_some, bd4_some, bd5_some, bd6_some, bd7_some, bd8_some, bd9_some, bd10_some, bd11_some, bd1_ite, ↓reduceIte, gd_nI, gb_nI, gb_ite, li, liL, nI_add, nI_1, pk_sub, pk_mul, pk_div, nI_clamp, nI_eq, nI_leI, nI_ltI, nI_eqn, nI_neq, nI_nn, nI_len, nI_ltn, ngI_le, ngI_lt, nng, sm10, sm8, shr_n, shl_n, and_1, fa_or, leT, leF, ltT, ltF, eqT, eqF, eSa, e43, g1]
    obtain ⟨m2, h1, h2, h3⟩ := m_worst (n := 10) (show i < 5 by omega) (by omega) (hw i hi) (fun v51 v52 => if nI m ≤ v52 then fX6_look_L124 st ways B n' (nI (i + 1)) (if nI m ≤ v52 then y2 else nI i) (nI m) else fX6_look_L124 st ways B n' (nI (i + 1)) (if nI m ≤ v52 then y2 else nI i) v52) G (by omega)
    rw [h3]
    obtain rfl := mx_one g2 h1
    by_cases d : m ≤ m1
    · simp (disch := omega) only [nm_q, bd1_some, bd2_some, bd3_some, bd4_some, bd5_some, bd6_some, bd7_some, bd8_some, bd9_some, bd10_some, bd11_some, bd1_ite, ↓reduceIte, gd_nI, gb_nI, gb_ite, li, liL, nI_add, nI_1, pk_sub, pk_mul, pk_div, nI_clamp, nI_eq, nI_leI, nI_ltI, nI_eqn, nI_neq, nI_nn, nI_len, nI_ltn, ngI_le, ngI_lt, nng, sm10, sm8, shr_n, shl_n, and_1, fa_or, leT, leF, ltT, ltF, eqT, eqF]
      exact ih (nI (i + 1), nI m, y2, v', tr', da') (nI (i + 1), y2, nI m) ⟨rfl, rfl, m, e3, rfl, rfl, rfl, e7, g4.trans e8⟩
    · simp (disch := omega) only [nm_q, bd1_some, bd2_some, bd3_some, bd4_some, bd5_some, bd6_some, bd7_some, bd8_some, bd9_some, bd10_some, bd11_some, bd1_ite, ↓reduceIte, gd_nI, gb_nI, gb_ite, li, liL, nI_add, nI_1, pk_sub, pk_mul, pk_div, nI_clamp, nI_eq, nI_leI, nI_ltI, nI_eqn, nI_neq, nI_nn, nI_len, nI_ltn, ngI_le, ngI_lt, nng, sm10, sm8, shr_n, shl_n, and_1, fa_or, leT, leF, ltT, ltF, eqT, eqF]
      exact ih (nI (i + 1), nI m1, nI i, v', tr', da') (nI (i + 1), nI i, nI m1) ⟨rfl, rfl, m1, g3, rfl, rfl, rfl, Or.inr ⟨i, by omega, rfl⟩, g4.trans e8⟩
  · rintro ⟨x1, x2, x3, v1, tr, da⟩ ⟨y1, y2, y3⟩ n n' hl
    obtain ⟨e1, e2, _⟩ := id hl
    simp only at e1 e2 ⊢
    subst e1 e2
    rw [fX5_look_L45, fX6_look_L124]
    simp (disch := omega) only [nm_q, bd1_some, bd2_some, bd3_some, bd4_some, bd5_some, bd6_some, bd7_some, bd8_some, bd9_some, bd10_some, bd11_some, bd1_ite, ↓reduceIte, gd_nI, gb_nI, gb_ite, li, liL, nI_add, nI_1, pk_sub, pk_mul, pk_div, nI_clamp, nI_eq, nI_leI, nI_ltI, nI_eqn, nI_neq, nI_nn, nI_len, nI_ltn, ngI_le, ngI_lt, nng, sm10, sm8, shr_n, shl_n, and_1, fa_or, leT, leF, ltT, ltF, eqT, eqF, eSa, e43]
    exact hE _ _ hl
def TL (v : VT) (x : Option (Int32 × VT × CT × DT)) (y : Option (Int32 × AI × AI × AI × AI × AI)) : Prop := ∃ (res : Int32) (v' : VT) (tr : CT) (da : DT) (now la lh ls w : AI), x = some (res, v', tr, da) ∧ y = some (res, now, la, lh, ls, w) ∧ v'.2 = v.2
theorem ev_look (v : VT) (rd : RT) (dr : CT) (nw : CT) (tr : CT) (da : DT) (i0 : CT) (i1 : CT) (s0 : ST) (s1 : ST) (s2 : ST) (s3 : ST) (st : AI) (now : AI) (isKept : AI) (hearers : Int32) (draft : AI) (dHearers : Int32) (dWalls : Int32) (toldWinds : Int32) (tape : AI) (taped : Int32) (pos : Int32) (frm : Int32) (sort : Int32) (value : Int32) (fault : Int32) (wrongAt : Int32) (landed : AI) (landedIn : AI) (stepped : AI) (isThere : AI) (isAt : AI) (isNext : AI) (landSum : Int64) (heardSum : Int64) (allWays : Int64) (ways : AI) (drawn : AI) (lanes : AI) (sizes : AI) (cells : AI) (torn : Int32) (before : AI) (hR : Rel v rd nw i0 i1 s0 s1 s2 s3 st isKept hearers tape taped fault lanes sizes cells torn) (p1 : Int32) (p2 : Int32) : ∃ (res : Int32) (v_x : VT) (tr_x : CT) (da_x : DT) (now_x : AI) (landed_x : AI) (landedIn_x : AI) (stepped_x : AI) (ways_x : AI), fX5_look p1 p2 v nw tr da = some (res, v_x, tr_x, da_x) ∧ fX6_look p1 p2 st now landed landedIn stepped ways = some (res, now_x, landed_x, landedIn_x, stepped_x, ways_x) ∧ (Rel v_x rd nw i0 i1 s0 s1 s2 s3 st isKept hearers tape taped fault lanes sizes cells torn) := by
  have hR0 := hR
  obtain ⟨⟨K, hK, hc, hm⟩, r0, r1, rt, rf, q0, q1, q2, q3, rl⟩ := hR
  have hm0 := RCm0 hm
  have hN := WF_N hK
  rcases isSay hN hc.2.2.1 hm0.2.2.1 p1 with ⟨s, hs, rfl, f1, f2⟩ | ⟨f1, f2⟩
  · rcases isPt p2 with ⟨j, hj, rfl, h3⟩ | ⟨h1, h2⟩
    · have key : TL v (fX5_look (nI s) (nI j) v nw tr da) (fX6_look (nI s) (nI j) st now landed landedIn stepped ways) := by
        obtain ⟨F, hF⟩ : ∃ F, F = 4096 := ⟨_, rfl⟩
        obtain ⟨tr', da', e1⟩ := c_asSeen (k := 3) (a := 1) (b := 9) v tr da hK hc hs (by omega) (by omega) (by omega) (by omega) (fun v h1 h => ok3 h1 h)
        have e2 : fX5_asSeenBy (nI s) 3 1 9 v nw tr da = some (nI (soM K s 3 1 9), tr', da') := e1
        have hM := soM_lt K s
        rw [fX5_look, f1, bd1_some, if_neg (show ¬ nI 1 = 0 from n10), if_neg (nI_pos (show j < 2 ^ 31 by omega)), if_pos (show nI j ≤ 1 from nI_le (b := 1) (by omega) (by omega)), e2, bd3_some, c_bits _ hM, bd1_some, soC_m, fX6_look, f2, bd1_some, if_neg (show ¬ nI 1 = 0 from n10), h3, bd1_some, if_neg (show ¬ nI 1 = 0 from n10), ← hF, m_ways0 ways _ F (by omega)]
        refine m_L51 hK hm hs (fun y => TL v _ y) _ ?_ F (by omega) now landed landedIn stepped _ ?_
        · intro now la lh ls ways hw
          refine look_lk v hK hc hm hs hw _ _ (TL v) ?_ F (by omega) tr' da' (soC K s 10) (ct_le _ _)
          rintro ⟨x1, x2, x3, v1, tr, da⟩ ⟨y1, y2, y3⟩ ⟨_, _, m, e3, e4, e5, e6, e7, e8⟩
          simp only at e4 e5 e6 e7 e8 ⊢
          subst e4 e5 e6
          rcases e7 with e7 | ⟨b, hb, e7⟩
          · subst e7
            have z : (-nI 4 : Int32) = -4 := rfl
            by_cases c0 : nI j = 0
            · simp only [if_pos c0, if_pos z]; exact ⟨_, _, _, _, _, _, _, _, _, rfl, rfl, e8⟩
            · simp only [if_neg c0, if_pos z]; exact ⟨_, _, _, _, _, _, _, _, _, rfl, rfl, e8⟩
          · subst e7
            have z : ¬ nI b = -4 := by rw [show (-4 : Int32) = -nI 4 from rfl, nI_eqn (by omega) (by omega) (by omega)]; exact fun h => h
            by_cases c0 : nI j = 0
            · simp only [if_pos c0, if_neg z]; exact ⟨_, _, _, _, _, _, _, _, _, rfl, rfl, e8⟩
            · simp only [if_neg c0, if_neg z]; exact ⟨_, _, _, _, _, _, _, _, _, rfl, rfl, e8⟩
        · intro u hu c hc2
          show fa_fill (fun _ => nI 0) ways 400 (80 * u + c) = nI (wy K s u c 1)
          have : wy K s u c 1 = wy K s u c 0 := wy_no (Or.inr (Or.inl rfl))
          rw [fa_fill_in (by omega), this]
          rfl
      obtain ⟨res, v', a1, a2, a3, a4, a5, a6, a7, e1, e2, e3⟩ := key
      refine ⟨res, v', a1, a2, a3, a4, a5, a6, a7, e1, e2, ⟨K, hK, hc, hm⟩, RI_cong (by show v'.2.1 0 = v.2.1 0; rw [e3]) (fun _ _ => rfl) r0, RI_cong (by show v'.2.1 1 = v.2.1 1; rw [e3]) (fun _ _ => rfl) r1, rt, rf, q0, q1, q2, q3, ?_⟩
      show v'.2.2 = torn
      rw [e3]; exact rl
    · refine ⟨-nI 1, v, tr, da, now, landed, landedIn, stepped, ways, ?_, ?_, hR0⟩
      · rw [fX5_look, f1, bd1_some, if_neg (show ¬ nI 1 = 0 from n10)]
        exact rgA _ _ h1
      · rw [fX6_look, f2, bd1_some, if_neg (show ¬ nI 1 = 0 from n10), h2]; rfl
  · refine ⟨-nI 1, v, tr, da, now, landed, landedIn, stepped, ways, ?_, ?_, hR0⟩
    · rw [fX5_look, f1]; rfl
    · rw [fX6_look, f2]; rfl
