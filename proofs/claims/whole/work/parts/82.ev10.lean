-- what might be: aim, reach
def ST2 (K : KT) (s f w : Nat) : KT := setT (setT K s 3 f) s 2 w
theorem ST2_0 (K : KT) (s : Nat) : ST2 K s (kT K s 3) (kT K s 2) = K := by
  unfold ST2
  rw [set_same, set_same]
theorem ST2_c (K : KT) (s f w f' w' : Nat) : setT (setT (ST2 K s f' w') s 2 w) s 3 f = ST2 K s f w := by
  unfold ST2
  rw [set_set, set_comm _ _ _ (show 2 ≠ 3 by omega), set_set]
theorem ok3 {f : Nat} (h1 : 1 ≤ f) (h2 : f ≤ 9) : okV 3 f := ⟨by omega, by omega, by omega, fun _ => ⟨h1, h2⟩, by omega⟩
theorem ok2 {w : Nat} (h : w ≤ 3) : okV 2 w := ⟨by omega, by omega, fun _ => h, by omega, by omega⟩
theorem ok0 {w : Nat} (h : w ≤ 3) : okV 0 w := ⟨fun _ => h, by omega, by omega, by omega, by omega⟩
theorem ok1 {w : Nat} (h : w < 64) : okV 1 w := ⟨by omega, fun _ => h, by omega, by omega, by omega⟩
theorem ok4 {w : Nat} (h : w ≤ 9) : okV 4 w := ⟨by omega, by omega, by omega, by omega, fun _ => h⟩
theorem WF_ST2 {K : KT} {s f w : Nat} (hK : WFk K) (hs : s < kN K) (h1 : 1 ≤ f) (h2 : f ≤ 9) (h3 : w ≤ 3) : WFk (ST2 K s f w) := WF_set (WF_set hK hs (ok3 h1 h2)) hs (ok2 h3)
theorem c_placeBy {K : KT} {s f w f' w' : Nat} {tr : CT} (v : VT) (da : DT) (hK : WFk K) (hs : s < kN K) (h1 : 1 ≤ f) (h2 : f ≤ 9) (h3 : w ≤ 3) (hc : RCc (ST2 K s f' w') tr) : ∃ tr' da', fX5_placeBy (nI s) (nI w) (nI f) v tr da = some (nI ((dayK (ST2 K s f w)).2.1 s), tr', da') ∧ RCc (ST2 K s f w) tr' ∧ RDy (ST2 K s f w) da' := by
  have hN := WF_N hK
  have hW := WF_ST2 hK hs h1 h2 h3
  have r := RCc_set (s := s) (k := 3) (v := f) (RCc_set (s := s) (k := 2) (v := w) hc)
  rw [ST2_c] at r
  obtain ⟨da', g1, g2⟩ := c_day da hW r
  refine ⟨_, da', ?_, r, g2⟩
  have e : dPl da' s = nI ((dayK (ST2 K s f w)).2.1 s) := (g2.2.2.2 s hs).1
  simp only [show tvk 2 w = w from rfl, show tvk 3 f = f from rfl] at g1
  simp (disch := omega) only [fX5_placeBy, nm_q, bd1_some, bd2_some, bd3_some, bd4_some, bd5_some, bd6_some, bd7_some, bd8_some, bd9_some, bd10_some, bd11_some, bd1_ite, ↓reduceIte, gd_nI, gb_nI, gb_ite, li, liL, nI_add, nI_1, pk_sub, pk_mul, pk_div, nI_clamp, nI_eq, nI_leI, nI_ltI, nI_eqn, nI_neq, nI_nn, nI_len, nI_ltn, ngI_le, ngI_lt, nng, sm10, sm8, shr_n, shl_n, and_1, fa_or, leT, leF, ltT, ltF, eqT, eqF, g1, e]
  rfl
theorem m_said {K : KT} {s f w : Nat} {st : AI} {h : Int32} (now la lh ls : AI) (hK : WFk K) (hm : RCm K st 0 h) (hs : s < kN K) (h1 : 1 ≤ f) (h2 : f ≤ 9) (h3 : w ≤ 3) : ∃ now' la' lh' ls', fX6_goesSaid (nI s) (nI f) (nI w) st now la lh ls = some (now', la', lh', ls') ∧ RMy (ST2 K s f w) now' la' lh' ls' := by
  have hN := WF_N hK
  have hW := WF_ST2 hK hs h1 h2 h3
  have r := RN_setT (s := s) (k := 2) (v := w) (RN_setT (s := s) (k := 3) (v := f) (RN_starts now hK hm) hN hs (by omega)) hN hs (by omega)
  obtain ⟨n', la', lh', ls', g1, g2⟩ := m_day la lh ls hW r
  refine ⟨n', la', lh', ls', ?_, g2⟩
  have e3 := m_bec (s := s) (k := 3) (nI f) (fa_fill st now 61) (by omega) (by omega)
  have e2 := m_bec (s := s) (k := 2) (nI w) (upd (fa_fill st now 61) (18 + 5 * s + 3) (nI f)) (by omega) (by omega)
  simp only [show tvk 2 w = w from rfl, show tvk 3 f = f from rfl] at g1
  rw [fX6_goesSaid, m_starts, bd1_some, show fX6_becomesOf (nI s) 3 (nI f) (fa_fill st now 61) = _ from e3, bd1_some, show fX6_becomesOf (nI s) 2 (nI w) _ = _ from e2, bd1_some, g1, bd4_some]
theorem aim_in {K : KT} {s q f : Nat} {st : AI} {h : Int32} (v : VT) (hK : WFk K) (hm : RCm K st 0 h) (hs : s < kN K) (hq : q < 64) (h1 : 1 ≤ f) (h2 : f ≤ 9) (A : Int32 → CT → DT → Option (Int32 × CT × DT)) (B : Int32 → AI → AI → AI → AI → Option (Int32 × AI × AI × AI × AI)) (P : Option (Int32 × CT × DT) → Option (Int32 × AI × AI × AI × AI) → Prop) (hE : ∀ tr da now la lh ls, (∃ f' w', RCc (ST2 K s f' w') tr) → P (A (nI 4) tr da) (B (nI 4) now la lh ls)) (hX : ∀ (w : Nat) tr da now la lh ls, w < 4 → P (some (nI (10 * f + w), tr, da)) (some (nI (10 * f + w), now, la, lh, ls))) (F : Nat) (hF : 4 < F) (tr : CT) (da : DT) (now la lh ls : AI) (hr : ∃ f' w', RCc (ST2 K s f' w') tr) : P (fX5_aim_L49 v (nI s) (nI q) (nI f) A F 0 tr da) (fX6_aim_L28 st (nI s) (nI (cell q)) (nI f) B F 0 now la lh ls) := by
  have hN := WF_N hK
  refine lock (fun n (t : Int32 × CT × DT) => fX5_aim_L49 v (nI s) (nI q) (nI f) A n t.1 t.2.1 t.2.2) (fun n (t : Int32 × AI × AI × AI × AI) => fX6_aim_L28 st (nI s) (nI (cell q)) (nI f) B n t.1 t.2.1 t.2.2.1 t.2.2.2.1 t.2.2.2.2) (fun i x y => x.1 = nI i ∧ y.1 = nI i ∧ ∃ f' w', RCc (ST2 K s f' w') x.2.1) P 4 ?_ ?_ 4 0 F F (0, tr, da) (0, now, la, lh, ls) (by omega) hF hF ⟨rfl, rfl, hr⟩
  · rintro i ⟨a, tr, da⟩ ⟨a', now, la, lh, ls⟩ n m hi ⟨e1, e2, f', w', e3⟩ ih
    simp only at e1 e2 e3 ⊢
    subst e1 e2
    obtain ⟨tr', da', g1, g2, g3⟩ := c_placeBy v da hK hs h1 h2 (show i ≤ 3 by omega) e3
    obtain ⟨n', la', lh', ls', k1, k2⟩ := m_said now la lh ls hK hm hs h1 h2 (show i ≤ 3 by omega)
    obtain ⟨b1, b2, _⟩ := k2.2 s hs
    rw [fX5_aim_L49, fX6_aim_L28]
    by_cases c : (dayK (ST2 K s f i)).2.1 s = q
    · simp (disch := omega) only [nm_q, bd1_some, bd2_some, bd3_some, bd4_some, bd5_some, bd6_some, bd7_some, bd8_some, bd9_some, bd10_some, bd11_some, bd1_ite, ↓reduceIte, gd_nI, gb_nI, gb_ite, li, liL, nI_add, nI_1, pk_sub, pk_mul, pk_div, nI_clamp, nI_eq, nI_leI, nI_ltI, nI_eqn, nI_neq, nI_nn, nI_len, nI_ltn, ngI_le, ngI_lt, nng, sm10, sm8, shr_n, shl_n, and_1, fa_or, leT, leF, ltT, ltF, eqT, eqF, g1, k1, b1, ci_eq]
      exact hX i tr' da' n' la' lh' ls' hi
    · simp (disch := omega) only [nm_q, bd1_some, bd2_some, bd3_some, bd4_some, bd5_some, bd6_some, bd7_some, bd8_some, bd9_some, bd10_some, bd11_some, bd1_ite, ↓reduceIte, gd_nI, gb_nI, gb_ite, li, liL, nI_add, nI_1, pk_sub, pk_mul, pk_div, nI_clamp, nI_eq, nI_leI, nI_ltI, nI_eqn, nI_neq, nI_nn, nI_len, nI_ltn, ngI_le, ngI_lt, nng, sm10, sm8, shr_n, shl_n, and_1, fa_or, leT, leF, ltT, ltF, eqT, eqF, g1, k1, b1, ci_eq]
      exact ih (nI (i + 1), tr', da') (nI (i + 1), n', la', lh', ls') ⟨rfl, rfl, f, i, g2⟩
  · rintro ⟨a, tr, da⟩ ⟨a', now, la, lh, ls⟩ n m ⟨e1, e2, e3⟩
    simp only at e1 e2 e3 ⊢
    subst e1 e2
    rw [fX5_aim_L49, fX6_aim_L28]
    simp (disch := omega) only [nm_q, bd1_some, bd2_some, bd3_some, bd4_some, bd5_some, bd6_some, bd7_some, bd8_some, bd9_some, bd10_some, bd11_some, bd1_ite, ↓reduceIte, gd_nI, gb_nI, gb_ite, li, liL, nI_add, nI_1, pk_sub, pk_mul, pk_div, nI_clamp, nI_eq, nI_leI, nI_ltI, nI_eqn, nI_neq, nI_nn, nI_len, nI_ltn, ngI_le, ngI_lt, nng, sm10, sm8, shr_n, shl_n, and_1, fa_or, leT, leF, ltT, ltF, eqT, eqF]
    exact hE _ _ _ _ _ _ e3
theorem aim_out {K : KT} {s q : Nat} {st : AI} {h : Int32} (v : VT) (hK : WFk K) (hm : RCm K st 0 h) (hs : s < kN K) (hq : q < 64) (A : Int32 → CT → DT → Option (Int32 × CT × DT)) (B : Int32 → AI → AI → AI → AI → Option (Int32 × AI × AI × AI × AI)) (P : Option (Int32 × CT × DT) → Option (Int32 × AI × AI × AI × AI) → Prop) (hE : ∀ a b tr da now la lh ls, P (A a tr da) (B b now la lh ls)) (hX : ∀ (r : Int32) tr da now la lh ls, P (some (r, tr, da)) (some (r, now, la, lh, ls))) (F : Nat) (hF : 9 < F) (tr : CT) (da : DT) (now la lh ls : AI) (hr : ∃ f' w', RCc (ST2 K s f' w') tr) : P (fX5_aim_L39 v (nI s) (nI q) A F 1 tr da) (fX6_aim_L19 st (nI s) (nI (cell q)) B F 1 now la lh ls) := by
  refine lock (fun n (t : Int32 × CT × DT) => fX5_aim_L39 v (nI s) (nI q) A n t.1 t.2.1 t.2.2) (fun n (t : Int32 × AI × AI × AI × AI) => fX6_aim_L19 st (nI s) (nI (cell q)) B n t.1 t.2.1 t.2.2.1 t.2.2.2.1 t.2.2.2.2) (fun i x y => x.1 = nI (1 + i) ∧ y.1 = nI (1 + i) ∧ ∃ f' w', RCc (ST2 K s f' w') x.2.1) P 9 ?_ ?_ 9 0 F F (1, tr, da) (1, now, la, lh, ls) (by omega) hF hF ⟨rfl, rfl, hr⟩
  · rintro i ⟨a, tr, da⟩ ⟨a', now, la, lh, ls⟩ n m hi ⟨e1, e2, e3⟩ ih
    simp only at e1 e2 e3 ⊢
    subst e1 e2
    obtain ⟨G, hG⟩ : ∃ G, G = 4096 := ⟨_, rfl⟩
    rw [fX5_aim_L39, fX6_aim_L19, ← hG]
    simp (disch := omega) only [nm_q, bd1_some, bd2_some, bd3_some, bd4_some, bd5_some, bd6_some, bd7_some, bd8_some, bd9_some, bd10_some, bd11_some, bd1_ite, ↓reduceIte, gd_nI, gb_nI, gb_ite, li, liL, nI_add, nI_1, pk_sub, pk_mul, pk_div, nI_clamp, nI_eq, nI_leI, nI_ltI, nI_eqn, nI_neq, nI_nn, nI_len, nI_ltn, ngI_le, ngI_lt, nng, sm10, sm8, shr_n, shl_n, and_1, fa_or, leT, leF, ltT, ltF, eqT, eqF]
    refine aim_in v hK hm hs hq (show 1 ≤ 1 + i by omega) (show 1 + i ≤ 9 by omega) _ _ P ?_ ?_ G (by omega) tr da now la lh ls e3
    · intro tr da now la lh ls hr
      exact ih (nI (1 + i + 1), tr, da) (nI (1 + i + 1), now, la, lh, ls) ⟨rfl, rfl, hr⟩
    · intro w tr da now la lh ls _
      exact hX _ _ _ _ _ _ _
  · rintro ⟨a, tr, da⟩ ⟨a', now, la, lh, ls⟩ n m ⟨e1, e2, e3⟩
    simp only at e1 e2 e3 ⊢
    subst e1 e2
    rw [fX5_aim_L39, fX6_aim_L19]
    simp (disch := omega) only [nm_q, bd1_some, bd2_some, bd3_some, bd4_some, bd5_some, bd6_some, bd7_some, bd8_some, bd9_some, bd10_some, bd11_some, bd1_ite, ↓reduceIte, gd_nI, gb_nI, gb_ite, li, liL, nI_add, nI_1, pk_sub, pk_mul, pk_div, nI_clamp, nI_eq, nI_leI, nI_ltI, nI_eqn, nI_neq, nI_nn, nI_len, nI_ltn, ngI_le, ngI_lt, nng, sm10, sm8, shr_n, shl_n, and_1, fa_or, leT, leF, ltT, ltF, eqT, eqF]
    exact hE _ _ _ _ _ _ _ _
/-- one answer on both sides -/
def T5 (x : Option (Int32 × CT × DT)) (y : Option (Int32 × AI × AI × AI × AI)) : Prop := ∃ (res : Int32) (tr : CT) (da : DT) (now la lh ls : AI), x = some (res, tr, da) ∧ y = some (res, now, la, lh, ls)
theorem T5_i {res : Int32} {tr : CT} {da : DT} {now la lh ls : AI} : T5 (some (res, tr, da)) (some (res, now, la, lh, ls)) := ⟨_, _, _, _, _, _, _, rfl, rfl⟩
theorem ev_aim (v : VT) (rd : RT) (dr : CT) (nw : CT) (tr : CT) (da : DT) (i0 : CT) (i1 : CT) (s0 : ST) (s1 : ST) (s2 : ST) (s3 : ST) (st : AI) (now : AI) (isKept : AI) (hearers : Int32) (draft : AI) (dHearers : Int32) (dWalls : Int32) (toldWinds : Int32) (tape : AI) (taped : Int32) (pos : Int32) (frm : Int32) (sort : Int32) (value : Int32) (fault : Int32) (wrongAt : Int32) (landed : AI) (landedIn : AI) (stepped : AI) (isThere : AI) (isAt : AI) (isNext : AI) (landSum : Int64) (heardSum : Int64) (allWays : Int64) (ways : AI) (drawn : AI) (lanes : AI) (sizes : AI) (cells : AI) (torn : Int32) (before : AI) (hR : Rel v rd nw i0 i1 s0 s1 s2 s3 st isKept hearers tape taped fault lanes sizes cells torn) (p1 : Int32) (p2 : Int32) : ∃ (res : Int32) (tr_x : CT) (da_x : DT) (now_x : AI) (landed_x : AI) (landedIn_x : AI) (stepped_x : AI), fX5_aim p1 p2 v nw tr da = some (res, tr_x, da_x) ∧ fX6_aim p1 p2 st now landed landedIn stepped = some (res, now_x, landed_x, landedIn_x, stepped_x) ∧ (Rel v rd nw i0 i1 s0 s1 s2 s3 st isKept hearers tape taped fault lanes sizes cells torn) := by
  have hR0 := hR
  obtain ⟨⟨K, hK, hc, hm⟩, r0, r1, rt, rf, q0, q1, q2, q3, rl⟩ := hR
  have hm0 := RCm0 hm
  have hN := WF_N hK
  rcases isSay hN hc.2.2.1 hm0.2.2.1 p1 with ⟨s, hs, rfl, f1, f2⟩ | ⟨f1, f2⟩
  · rcases isC p2 with ⟨q, hq, rfl, g1, g2⟩ | ⟨g1, g2⟩
    · have key : T5 (fX5_aim (nI s) (nI (cell q)) v nw tr da) (fX6_aim (nI s) (nI (cell q)) st now landed landedIn stepped) := by
        obtain ⟨F, hF⟩ : ∃ F, F = 4096 := ⟨_, rfl⟩
        rw [fX5_aim, f1, bd1_some, if_neg (show ¬ nI 1 = 0 from n10), g1, bd1_some, if_neg (show ¬ nI 1 = 0 from n10), c_place hq, bd1_some, fX0_copyTo, bd1_some, fX6_aim, f2, bd1_some, if_neg (show ¬ nI 1 = 0 from n10), g2, bd1_some, if_neg (show ¬ nI 1 = 0 from n10), ← hF]
        exact aim_out v hK hm hs hq _ _ T5 (fun a b tr da now la lh ls => T5_i) (fun r tr da now la lh ls => T5_i) F (by omega) nw da now landed landedIn stepped ⟨_, _, by rw [ST2_0]; exact hc⟩
      obtain ⟨res, a1, a2, a3, a4, a5, a6, e1, e2⟩ := key
      exact ⟨res, a1, a2, a3, a4, a5, a6, e1, e2, hR0⟩
    · refine ⟨-nI 1, tr, da, now, landed, landedIn, stepped, ?_, ?_, hR0⟩
      · simp (disch := omega) only [fX5_aim, f1, g1, nm_q, bd1_some, bd2_some, bd3_some, bd4_some, bd5_some, bd6_some, bd7_some, bd8_some, bd9_some, bd10_some, bd11_some, bd1_ite, ↓reduceIte, gd_nI, gb_nI, gb_ite, li, liL, nI_add, nI_1, pk_sub, pk_mul, pk_div, nI_clamp, nI_eq, nI_leI, nI_ltI, nI_eqn, nI_neq, nI_nn, nI_len, nI_ltn, ngI_le, ngI_lt, nng, sm10, sm8, shr_n, shl_n, and_1, fa_or, leT, leF, ltT, ltF, eqT, eqF]
      · simp (disch := omega) only [fX6_aim, f2, g2, nm_q, bd1_some, bd2_some, bd3_some, bd4_some, bd5_some, bd6_some, bd7_some, bd8_some, bd9_some, bd10_some, bd11_some, bd1_ite, ↓reduceIte, gd_nI, gb_nI, gb_ite, li, liL, nI_add, nI_1, pk_sub, pk_mul, pk_div, nI_clamp, nI_eq, nI_leI, nI_ltI, nI_eqn, nI_neq, nI_nn, nI_len, nI_ltn, ngI_le, ngI_lt, nng, sm10, sm8, shr_n, shl_n, and_1, fa_or, leT, leF, ltT, ltF, eqT, eqF]
  · refine ⟨-nI 1, tr, da, now, landed, landedIn, stepped, ?_, ?_, hR0⟩
    · simp (disch := omega) only [fX5_aim, f1, nm_q, bd1_some, bd2_some, bd3_some, bd4_some, bd5_some, bd6_some, bd7_some, bd8_some, bd9_some, bd10_some, bd11_some, bd1_ite, ↓reduceIte, gd_nI, gb_nI, gb_ite, li, liL, nI_add, nI_1, pk_sub, pk_mul, pk_div, nI_clamp, nI_eq, nI_leI, nI_ltI, nI_eqn, nI_neq, nI_nn, nI_len, nI_ltn, ngI_le, ngI_lt, nng, sm10, sm8, shr_n, shl_n, and_1, fa_or, leT, leF, ltT, ltF, eqT, eqF]
    · simp (disch := omega) only [fX6_aim, f2, nm_q, bd1_some, bd2_some, bd3_some, bd4_some, bd5_some, bd6_some, bd7_some, bd8_some, bd9_some, bd10_some, bd11_some, bd1_ite, ↓reduceIte, gd_nI, gb_nI, gb_ite, li, liL, nI_add, nI_1, pk_sub, pk_mul, pk_div, nI_clamp, nI_eq, nI_leI, nI_ltI, nI_eqn, nI_neq, nI_nn, nI_len, nI_ltn, ngI_le, ngI_lt, nng, sm10, sm8, shr_n, shl_n, and_1, fa_or, leT, leF, ltT, ltF, eqT, eqF]
theorem ct_in {p q : Nat → Bool} {j : Nat} (hj : p j = true) (hq : q j = false) : ∀ {n : Nat}, j < n → (∀ k, k < n → k ≠ j → p k = q k) → ct p n = ct q n + 1
  | 0, h, _ => absurd h (Nat.not_lt_zero _)
  | n + 1, h, e => by
    rw [ct, ct]
    by_cases c : n = j
    · rw [ct_cong (p := p) (q := q) (fun k hk => e k (by omega) (by omega)), c, hj, hq]
      simp
    · rw [ct_in hj hq (n := n) (by omega) (fun k hk => e k (by omega)), e n (by omega) c]
      omega
theorem pc_add {W p : Nat} (h : W.testBit p = false) (hp : p < 64) : pcnt (W ||| 2 ^ p) = pcnt W + 1 := ct_in (j := p) (by rw [fb_bit_set]; simp) h hp fun k _ hk => by
  rw [fb_bit_set]
  simp [hk]
/-- a row of flags, by the names of the places -/
def FL (W : Nat) (f : AI) : Prop := ∀ p, p < 64 → f (cell p) = if W.testBit p then nI 1 else nI 0
theorem FL_set {W p : Nat} {f : AI} (h : FL W f) (hp : p < 64) : FL (W ||| 2 ^ p) (upd f (cell p) (nI 1)) := by
  intro q hq
  rw [fb_bit_set]
  by_cases c : q = p
  · rw [c, pk_us]
    simp
  · rw [pk_un (fun e => c ((cell_inj hq hp).mp e)), h q hq]
    simp [c]
theorem reach_in {K : KT} {s f : Nat} {st : AI} {h : Int32} (v : VT) (hK : WFk K) (hm : RCm K st 0 h) (hs : s < kN K) (h1 : 1 ≤ f) (h2 : f ≤ 9) (A : Int32 → Int64 → CT → DT → Option (Int32 × CT × DT)) (B : Int32 → Int32 → AI → AI → AI → AI → AI → Option (Int32 × AI × AI × AI × AI × AI)) (P : Option (Int32 × CT × DT) → Option (Int32 × AI × AI × AI × AI × AI) → Prop) (hE : ∀ W tr da now la lh ls it, W < 2 ^ 64 → FL W it → (∃ f' w', RCc (ST2 K s f' w') tr) → P (A (nI 4) (lN W) tr da) (B (nI 4) (nI (pcnt W)) now la lh ls it)) (F : Nat) (hF : 4 < F) (W : Nat) (tr : CT) (da : DT) (now la lh ls it : AI) (hW : W < 2 ^ 64) (hfl : FL W it) (hr : ∃ f' w', RCc (ST2 K s f' w') tr) : P (fX5_reach_L39 v (nI s) (nI f) A F 0 (lN W) tr da) (fX6_reach_L44 st (nI s) (nI f) B F 0 (nI (pcnt W)) now la lh ls it) := by
  have hN := WF_N hK
  refine lock (fun n (t : Int32 × Int64 × CT × DT) => fX5_reach_L39 v (nI s) (nI f) A n t.1 t.2.1 t.2.2.1 t.2.2.2) (fun n (t : Int32 × Int32 × AI × AI × AI × AI × AI) => fX6_reach_L44 st (nI s) (nI f) B n t.1 t.2.1 t.2.2.1 t.2.2.2.1 t.2.2.2.2.1 t.2.2.2.2.2.1 t.2.2.2.2.2.2) (fun i x y => x.1 = nI i ∧ y.1 = nI i ∧ ∃ W, W < 2 ^ 64 ∧ x.2.1 = lN W ∧ y.2.1 = nI (pcnt W) ∧ FL W y.2.2.2.2.2.2 ∧ ∃ f' w', RCc (ST2 K s f' w') x.2.2.1) P 4 ?_ ?_ 4 0 F F (0, lN W, tr, da) (0, nI (pcnt W), now, la, lh, ls, it) (by omega) hF hF ⟨rfl, rfl, W, hW, rfl, rfl, hfl, hr⟩
  · rintro i ⟨a, b, tr, da⟩ ⟨a', b', now, la, lh, ls, it⟩ n m hi ⟨e1, e2, W, e3, e4, e5, e6, f', w', e7⟩ ih
    simp only at e1 e2 e4 e5 e6 e7 ⊢
    subst e1 e2 e4 e5
    obtain ⟨tr', da', g1, g2, g3⟩ := c_placeBy v da hK hs h1 h2 (show i ≤ 3 by omega) e7
    obtain ⟨n', la', lh', ls', k1, k2⟩ := m_said now la lh ls hK hm hs h1 h2 (show i ≤ 3 by omega)
    obtain ⟨b1, b2, _⟩ := k2.2 s hs
    have hcl := cell_lt b2
    have fl := e6 _ b2
    have next := ih (nI (i + 1), lN (W ||| 2 ^ (dayK (ST2 K s f i)).2.1 s), tr', da') (nI (i + 1), nI (pcnt (W ||| 2 ^ (dayK (ST2 K s f i)).2.1 s)), n', la', lh', ls', upd it (cell ((dayK (ST2 K s f i)).2.1 s)) (nI 1)) ⟨rfl, rfl, _, or_lt e3 b2, rfl, rfl, FL_set e6 b2, f, i, g2⟩
    rw [fX5_reach_L39, fX6_reach_L44]
    cases ew : W.testBit ((dayK (ST2 K s f i)).2.1 s) with
    | true =>
      rw [ew] at fl
      rw [pc_same ew] at next
      simp (disch := omega) only [nm_q, bd1_some, bd2_some, bd3_some, bd4_some, bd5_some, bd6_some, bd7_some, bd8_some, bd9_some, bd10_some, bd11_some, bd1_ite, ↓reduceIte, gd_nI, gb_nI, gb_ite, li, liL, nI_add, nI_1, pk_sub, pk_mul, pk_div, nI_clamp, nI_eq, nI_leI, nI_ltI, nI_eqn, nI_neq, nI_nn, nI_len, nI_ltn, ngI_le, ngI_lt, nng, sm10, sm8, shr_n, shl_n, and_1, fa_or, leT, leF, ltT, ltF, eqT, eqF, g1, k1, b1, fl, c_set b2, tt_i, shl_1, shl_0, Nat.zero_mul, Nat.or_zero, Nat.one_mul, Nat.add_zero, flag_1, flag_0, nar1, pc_same ew]
      exact next
    | false =>
      rw [ew] at fl
      rw [pc_add ew b2] at next
      simp (disch := omega) only [nm_q, bd1_some, bd2_some, bd3_some, bd4_some, bd5_some, bd6_some, bd7_some, bd8_some, bd9_some, bd10_some, bd11_some, bd1_ite, ↓reduceIte, gd_nI, gb_nI, gb_ite, li, liL, nI_add, nI_1, pk_sub, pk_mul, pk_div, nI_clamp, nI_eq, nI_leI, nI_ltI, nI_eqn, nI_neq, nI_nn, nI_len, nI_ltn, ngI_le, ngI_lt, nng, sm10, sm8, shr_n, shl_n, and_1, fa_or, leT, leF, ltT, ltF, eqT, eqF, g1, k1, b1, fl, c_set b2, ff_i, shl_1, shl_0, Nat.zero_mul, Nat.or_zero, Nat.one_mul, Nat.add_zero, flag_1, flag_0, nar1]
      exact next
  · rintro ⟨a, b, tr, da⟩ ⟨a', b', now, la, lh, ls, it⟩ n m ⟨e1, e2, W, e3, e4, e5, e6, e7⟩
    simp only at e1 e2 e4 e5 e6 e7 ⊢
    subst e1 e2 e4 e5
    rw [fX5_reach_L39, fX6_reach_L44]
    simp (disch := omega) only [nm_q, bd1_some, bd2_some, bd3_some, bd4_some, bd5_some, bd6_some, bd7_some, bd8_some, bd9_some, bd10_some, bd11_some, bd1_ite, ↓reduceIte, gd_nI, gb_nI, gb_ite, li, liL, nI_add, nI_1, pk_sub, pk_mul, pk_div, nI_clamp, nI_eq, nI_leI, nI_ltI, nI_eqn, nI_neq, nI_nn, nI_len, nI_ltn, ngI_le, ngI_lt, nng, sm10, sm8, shr_n, shl_n, and_1, fa_or, leT, leF, ltT, ltF, eqT, eqF]
    exact hE _ _ _ _ _ _ _ _ e3 e6 e7
