-- reach, when, kinds, forces, froms, screen
def T6 (x : Option (Int32 × CT × DT)) (y : Option (Int32 × AI × AI × AI × AI × AI)) : Prop := ∃ (res : Int32) (tr : CT) (da : DT) (now la lh ls it : AI), x = some (res, tr, da) ∧ y = some (res, now, la, lh, ls, it)
theorem T6_i {res : Int32} {tr : CT} {da : DT} {now la lh ls it : AI} : T6 (some (res, tr, da)) (some (res, now, la, lh, ls, it)) := ⟨_, _, _, _, _, _, _, _, rfl, rfl⟩
theorem reach_out {K : KT} {s : Nat} {st : AI} {h : Int32} (v : VT) (hK : WFk K) (hm : RCm K st 0 h) (hs : s < kN K) (A : Int32 → Int64 → CT → DT → Option (Int32 × CT × DT)) (B : Int32 → Int32 → AI → AI → AI → AI → AI → Option (Int32 × AI × AI × AI × AI × AI)) (P : Option (Int32 × CT × DT) → Option (Int32 × AI × AI × AI × AI × AI) → Prop) (hE : ∀ a b W tr da now la lh ls it, W < 2 ^ 64 → P (A a (lN W) tr da) (B b (nI (pcnt W)) now la lh ls it)) (F : Nat) (hF : 9 < F) (W : Nat) (tr : CT) (da : DT) (now la lh ls it : AI) (hW : W < 2 ^ 64) (hfl : FL W it) (hr : ∃ f' w', RCc (ST2 K s f' w') tr) : P (fX5_reach_L29 v (nI s) A F 1 (lN W) tr da) (fX6_reach_L35 st (nI s) B F 1 (nI (pcnt W)) now la lh ls it) := by
  refine lock (fun n (t : Int32 × Int64 × CT × DT) => fX5_reach_L29 v (nI s) A n t.1 t.2.1 t.2.2.1 t.2.2.2) (fun n (t : Int32 × Int32 × AI × AI × AI × AI × AI) => fX6_reach_L35 st (nI s) B n t.1 t.2.1 t.2.2.1 t.2.2.2.1 t.2.2.2.2.1 t.2.2.2.2.2.1 t.2.2.2.2.2.2) (fun i x y => x.1 = nI (1 + i) ∧ y.1 = nI (1 + i) ∧ ∃ W, W < 2 ^ 64 ∧ x.2.1 = lN W ∧ y.2.1 = nI (pcnt W) ∧ FL W y.2.2.2.2.2.2 ∧ ∃ f' w', RCc (ST2 K s f' w') x.2.2.1) P 9 ?_ ?_ 9 0 F F (1, lN W, tr, da) (1, nI (pcnt W), now, la, lh, ls, it) (by omega) hF hF ⟨rfl, rfl, W, hW, rfl, rfl, hfl, hr⟩
  · rintro i ⟨a, b, tr, da⟩ ⟨a', b', now, la, lh, ls, it⟩ n m hi ⟨e1, e2, W, e3, e4, e5, e6, e7⟩ ih
    simp only at e1 e2 e4 e5 e6 e7 ⊢
    subst e1 e2 e4 e5
    obtain ⟨G, hG⟩ : ∃ G, G = 4096 := ⟨_, rfl⟩
    rw [fX5_reach_L29, fX6_reach_L35, ← hG]
    simp (disch := omega) only [nm_q, bd1_some, bd2_some, bd3_some, bd4_some, bd5_some, bd6_some, bd7_some, bd8_some, bd9_some, bd10_some, bd11_some, bd1_ite, ↓reduceIte, gd_nI, gb_nI, gb_ite, li, liL, nI_add, nI_1, pk_sub, pk_mul, pk_div, nI_clamp, nI_eq, nI_leI, nI_ltI, nI_eqn, nI_neq, nI_nn, nI_len, nI_ltn, ngI_le, ngI_lt, nng, sm10, sm8, shr_n, shl_n, and_1, fa_or, leT, leF, ltT, ltF, eqT, eqF]
    refine reach_in v hK hm hs (show 1 ≤ 1 + i by omega) (show 1 + i ≤ 9 by omega) _ _ P ?_ G (by omega) W tr da now la lh ls it e3 e6 e7
    intro W tr da now la lh ls it hW hfl hr
    exact ih (nI (1 + i + 1), lN W, tr, da) (nI (1 + i + 1), nI (pcnt W), now, la, lh, ls, it) ⟨rfl, rfl, W, hW, rfl, rfl, hfl, hr⟩
  · rintro ⟨a, b, tr, da⟩ ⟨a', b', now, la, lh, ls, it⟩ n m ⟨e1, e2, W, e3, e4, e5, e6, e7⟩
    simp only at e1 e2 e4 e5 e6 e7 ⊢
    subst e1 e2 e4 e5
    rw [fX5_reach_L29, fX6_reach_L35]
    simp (disch := omega) only [nm_q, bd1_some, bd2_some, bd3_some, bd4_some, bd5_some, bd6_some, bd7_some, bd8_some, bd9_some, bd10_some, bd11_some, bd1_ite, ↓reduceIte, gd_nI, gb_nI, gb_ite, li, liL, nI_add, nI_1, pk_sub, pk_mul, pk_div, nI_clamp, nI_eq, nI_leI, nI_ltI, nI_eqn, nI_neq, nI_nn, nI_len, nI_ltn, ngI_le, ngI_lt, nng, sm10, sm8, shr_n, shl_n, and_1, fa_or, leT, leF, ltT, ltF, eqT, eqF]
    exact hE _ _ _ _ _ _ _ _ _ _ e3
theorem m_noneThere (it : AI) (C : Int32 → AI → Option (Int32 × AI × AI × AI × AI × AI)) (F : Nat) (hF : 80 < F) : fX6_reach_L14 C F 0 it = C (nI 80) (fa_fill (fun _ => nI 0) it 80) := by
  refine solo (fun n (t : Int32 × AI) => fX6_reach_L14 C n t.1 t.2) (fun i t => t = (nI i, fa_fill (fun _ => nI 0) it i)) (fun x => x = C (nI 80) (fa_fill (fun _ => nI 0) it 80)) 80 ?_ ?_ 80 0 F (nI 0, it) (by omega) (by omega) (by rw [fa_fill_0])
  · rintro i t n hi rfl ih
    have := ih _ rfl
    rw [← fa_fill_succ] at this
    show fX6_reach_L14 C (n + 1) (nI i) (fa_fill (fun _ => nI 0) it i) = _
    rw [fX6_reach_L14]
    simp (disch := omega) only [nar0, nm_q, bd1_some, bd2_some, bd3_some, bd4_some, bd5_some, bd6_some, bd7_some, bd8_some, bd9_some, bd10_some, bd11_some, bd1_ite, ↓reduceIte, gd_nI, gb_nI, gb_ite, li, liL, nI_add, nI_1, pk_sub, pk_mul, pk_div, nI_clamp, nI_eq, nI_leI, nI_ltI, nI_eqn, nI_neq, nI_nn, nI_len, nI_ltn, ngI_le, ngI_lt, nng, sm10, sm8, shr_n, shl_n, and_1, fa_or, leT, leF, ltT, ltF, eqT, eqF]
    exact this
  · rintro t n rfl
    show fX6_reach_L14 C (n + 1) (nI 80) (fa_fill (fun _ => nI 0) it 80) = _
    rw [fX6_reach_L14]
    simp (disch := omega) only [nm_q, bd1_some, bd2_some, bd3_some, bd4_some, bd5_some, bd6_some, bd7_some, bd8_some, bd9_some, bd10_some, bd11_some, bd1_ite, ↓reduceIte, gd_nI, gb_nI, gb_ite, li, liL, nI_add, nI_1, pk_sub, pk_mul, pk_div, nI_clamp, nI_eq, nI_leI, nI_ltI, nI_eqn, nI_neq, nI_nn, nI_len, nI_ltn, ngI_le, ngI_lt, nng, sm10, sm8, shr_n, shl_n, and_1, fa_or, leT, leF, ltT, ltF, eqT, eqF]
theorem FL_0 (it : AI) : FL 0 (fa_fill (fun _ => nI 0) it 80) := by
  intro p hp
  have := cell_lt hp
  rw [fa_fill_in (by omega)]
  simp
theorem pc_0 : pcnt 0 = 0 := by decide +kernel
theorem ev_reach (v : VT) (rd : RT) (dr : CT) (nw : CT) (tr : CT) (da : DT) (i0 : CT) (i1 : CT) (s0 : ST) (s1 : ST) (s2 : ST) (s3 : ST) (st : AI) (now : AI) (isKept : AI) (hearers : Int32) (draft : AI) (dHearers : Int32) (dWalls : Int32) (toldWinds : Int32) (tape : AI) (taped : Int32) (pos : Int32) (frm : Int32) (sort : Int32) (value : Int32) (fault : Int32) (wrongAt : Int32) (landed : AI) (landedIn : AI) (stepped : AI) (isThere : AI) (isAt : AI) (isNext : AI) (landSum : Int64) (heardSum : Int64) (allWays : Int64) (ways : AI) (drawn : AI) (lanes : AI) (sizes : AI) (cells : AI) (torn : Int32) (before : AI) (hR : Rel v rd nw i0 i1 s0 s1 s2 s3 st isKept hearers tape taped fault lanes sizes cells torn) (p1 : Int32) : ∃ (res : Int32) (tr_x : CT) (da_x : DT) (now_x : AI) (landed_x : AI) (landedIn_x : AI) (stepped_x : AI) (isThere_x : AI), fX5_reach p1 v nw tr da = some (res, tr_x, da_x) ∧ fX6_reach p1 st now landed landedIn stepped isThere = some (res, now_x, landed_x, landedIn_x, stepped_x, isThere_x) ∧ (Rel v rd nw i0 i1 s0 s1 s2 s3 st isKept hearers tape taped fault lanes sizes cells torn) := by
  have hR0 := hR
  obtain ⟨⟨K, hK, hc, hm⟩, r0, r1, rt, rf, q0, q1, q2, q3, rl⟩ := hR
  have hm0 := RCm0 hm
  have hN := WF_N hK
  rcases isSay hN hc.2.2.1 hm0.2.2.1 p1 with ⟨s, hs, rfl, f1, f2⟩ | ⟨f1, f2⟩
  · have key : T6 (fX5_reach (nI s) v nw tr da) (fX6_reach (nI s) st now landed landedIn stepped isThere) := by
      obtain ⟨F, hF⟩ : ∃ F, F = 4096 := ⟨_, rfl⟩
      rw [fX5_reach, f1, bd1_some, if_neg (show ¬ nI 1 = 0 from n10), fX0_copyTo, bd1_some, fX6_reach, f2, bd1_some, if_neg (show ¬ nI 1 = 0 from n10), ← hF, m_noneThere _ _ F (by omega)]
      have := reach_out v hK hm hs (fun v6 v7 tr_8 da_9 => bd1 (fJ13_bitCount_95d88 v7) fun r25 => some (r25, tr_8, da_9)) (fun v11 v12 now_13 landed_14 landedIn_15 stepped_16 isThere_17 => some (v12, now_13, landed_14, landedIn_15, stepped_16, isThere_17)) T6 (fun a b W tr da now la lh ls it hW => by rw [c_pop hW, bd1_some]; exact T6_i) F (by omega) 0 nw da now landed landedIn stepped _ (by decide) (FL_0 isThere) ⟨_, _, by rw [ST2_0]; exact hc⟩
      rw [pc_0] at this
      exact this
    obtain ⟨res, a1, a2, a3, a4, a5, a6, a7, e1, e2⟩ := key
    exact ⟨res, a1, a2, a3, a4, a5, a6, a7, e1, e2, hR0⟩
  · refine ⟨-nI 1, tr, da, now, landed, landedIn, stepped, isThere, ?_, ?_, hR0⟩
    · simp (disch := omega) only [fX5_reach, f1, nm_q, bd1_some, bd2_some, bd3_some, bd4_some, bd5_some, bd6_some, bd7_some, bd8_some, bd9_some, bd10_some, bd11_some, bd1_ite, ↓reduceIte, gd_nI, gb_nI, gb_ite, li, liL, nI_add, nI_1, pk_sub, pk_mul, pk_div, nI_clamp, nI_eq, nI_leI, nI_ltI, nI_eqn, nI_neq, nI_nn, nI_len, nI_ltn, ngI_le, ngI_lt, nng, sm10, sm8, shr_n, shl_n, and_1, fa_or, leT, leF, ltT, ltF, eqT, eqF]
    · rw [fX6_reach, f2]; rfl
/-- a trial with one number of one saying told otherwise, both sides -/
theorem c_try {K : KT} {s k v v' : Nat} {tr : CT} (da : DT) (hK : WFk K) (hs : s < kN K) (hv : okV k v) (hc : RCc (setT K s k v') tr) : ∃ da', fX1_pass da (cTo' tr (va_up (cTo tr) s (upd (cTo tr s) k (nI (tvk k v))))) = some da' ∧ RCc (setT K s k v) (cTo' tr (va_up (cTo tr) s (upd (cTo tr s) k (nI (tvk k v))))) ∧ RDy (setT K s k v) da' := by
  have r := RCc_set (s := s) (k := k) (v := v) hc
  rw [set_set] at r
  obtain ⟨da', g1, g2⟩ := c_day da (WF_set hK hs hv) r
  exact ⟨da', g1, r, g2⟩
theorem m_try {K : KT} {s k v : Nat} {st : AI} {h : Int32} (now la lh ls : AI) (hK : WFk K) (hm : RCm K st 0 h) (hs : s < kN K) (hk : k < 5) (hv : okV k v) : ∃ now' la' lh' ls', fX6_dayGoes (upd (fa_fill st now 61) (18 + 5 * s + k) (nI (tvk k v))) la lh ls = some (now', la', lh', ls') ∧ RMy (setT K s k v) now' la' lh' ls' := m_day la lh ls (WF_set hK hs hv) (RN_setT (RN_starts now hK hm) (WF_N hK) hs hk)
def whn (K : KT) (s : Nat) (i : Nat) (x : Int32 × Int32 × Int32 × CT × DT) (y : Int32 × Int32 × Int32 × AI × AI × AI × AI) : Prop := x.1 = nI i ∧ y.1 = nI i ∧ (x.2.1 = -nI 1 ∧ x.2.2.1 = nI 0 ∧ y.2.1 = nI 0 ∧ y.2.2.1 = -nI 1 ∨ ∃ a b, a ≤ 4 ∧ b ≤ 9 ∧ x.2.1 = nI a ∧ x.2.2.1 = nI b ∧ y.2.1 = nI b ∧ y.2.2.1 = nI a) ∧ ∃ v', RCc (setT K s 4 v') x.2.2.2.1
theorem when_lk {K : KT} {s : Nat} {st : AI} {h : Int32} (hK : WFk K) (hm : RCm K st 0 h) (hs : s < kN K) (A : Int32 → Int32 → Int32 → CT → DT → Option (Int32 × CT × DT)) (B : Int32 → Int32 → Int32 → AI → AI → AI → AI → Option (Int32 × AI × AI × AI × AI)) (P : Option (Int32 × CT × DT) → Option (Int32 × AI × AI × AI × AI) → Prop) (hE : ∀ x y, whn K s 10 x y → P (A x.1 x.2.1 x.2.2.1 x.2.2.2.1 x.2.2.2.2) (B y.1 y.2.1 y.2.2.1 y.2.2.2.1 y.2.2.2.2.1 y.2.2.2.2.2.1 y.2.2.2.2.2.2)) (F : Nat) (hF : 10 < F) (tr : CT) (da : DT) (now la lh ls : AI) (hr : ∃ v', RCc (setT K s 4 v') tr) : P (fX5_when_L41 (nI s) A F 0 (-1) 0 tr da) (fX6_when_L25 st h (nI s) B F 0 0 (-1) now la lh ls) := by
  have hN := WF_N hK
  have hH := WF_H hK
  have hp := WF_Hp hK
  refine lock (fun n (t : Int32 × Int32 × Int32 × CT × DT) => fX5_when_L41 (nI s) A n t.1 t.2.1 t.2.2.1 t.2.2.2.1 t.2.2.2.2) (fun n (t : Int32 × Int32 × Int32 × AI × AI × AI × AI) => fX6_when_L25 st h (nI s) B n t.1 t.2.1 t.2.2.1 t.2.2.2.1 t.2.2.2.2.1 t.2.2.2.2.2.1 t.2.2.2.2.2.2) (whn K s) P 10 ?_ ?_ 10 0 F F (0, -1, 0, tr, da) (0, 0, -1, now, la, lh, ls) (by omega) hF hF ⟨rfl, rfl, Or.inl ⟨rfl, rfl, rfl, rfl⟩, hr⟩
  · rintro i ⟨a, b, c, tr, da⟩ ⟨a', b', c', now, la, lh, ls⟩ n m hi ⟨e1, e2, e3, v', e4⟩ ih
    simp only at e1 e2 e3 e4 ⊢
    subst e1 e2
    have hW := WF_set hK hs (ok4 (show i ≤ 9 by omega))
    obtain ⟨da', g1, g2, g3⟩ := c_try da hK hs (ok4 (show i ≤ 9 by omega)) e4
    obtain ⟨n', la', lh', ls', k1, k2⟩ := m_try now la lh ls hK hm hs (by omega) (ok4 (show i ≤ 9 by omega))
    obtain ⟨b1, b2, _⟩ := g3.2.2.2 s hs
    have hm5 := (RCm0 hm).2.2.2.2.1
    have x1 : fX0_hearersIn (nI ((dayK (setT K s 4 i)).2.1 s)) (cTo' tr (va_up (cTo tr) s (upd (cTo tr s) 4 (nI (tvk 4 i))))) = some (nI (hIn (setT K s 4 i) ((dayK (setT K s 4 i)).2.1 s))) := c_hIn g2 hH hp b2
    have x2 : fX6_hearersOf (nI s) n' h la' = some (nI (hIn (setT K s 4 i) ((dayK (setT K s 4 i)).2.1 s))) := m_hOf k2 hm5 hN hH hp hs
    have x3 : hIn (setT K s 4 i) ((dayK (setT K s 4 i)).2.1 s) ≤ 4 := Nat.le_trans (hIn_le _) hH
    have x4 := m_bec (s := s) (k := 4) (nI i) (fa_fill st now 61) (by omega) (by omega)
    simp only [show tvk 4 i = i from rfl] at g1 k1 x1 g2
    rw [fX5_when_L41, fX6_when_L25]
    rcases e3 with ⟨y1, y2, y3, y4⟩ | ⟨u, w, z1, z2, y1, y2, y3, y4⟩
    · subst y1 y2 y3 y4
      simp (disch := omega) only [nm_q, bd1_some, bd2_some, bd3_some, bd4_some, bd5_some, bd6_some, bd7_some, bd8_some, bd9_some, bd10_some, bd11_some, bd1_ite, ↓reduceIte, gd_nI, gb_nI, gb_ite, li, liL, nI_add, nI_1, pk_sub, pk_mul, pk_div, nI_clamp, nI_eq, nI_leI, nI_ltI, nI_eqn, nI_neq, nI_nn, nI_len, nI_ltn, ngI_le, ngI_lt, nng, sm10, sm8, shr_n, shl_n, and_1, fa_or, leT, leF, ltT, ltF, eqT, eqF, m_starts, g1, b1, x1, x4, k1, x2]
      exact ih (nI (i + 1), nI _, nI i, _, da') (nI (i + 1), nI i, nI _, n', la', lh', ls') ⟨rfl, rfl, Or.inr ⟨_, i, x3, by omega, rfl, rfl, rfl, rfl⟩, i, g2⟩
    · subst y1 y2 y3 y4
      by_cases cm : hIn (setT K s 4 i) ((dayK (setT K s 4 i)).2.1 s) ≤ u
      · simp (disch := omega) only [nm_q, bd1_some, bd2_some, bd3_some, bd4_some, bd5_some, bd6_some, bd7_some, bd8_some, bd9_some, bd10_some, bd11_some, bd1_ite, ↓reduceIte, gd_nI, gb_nI, gb_ite, li, liL, nI_add, nI_1, pk_sub, pk_mul, pk_div, nI_clamp, nI_eq, nI_leI, nI_ltI, nI_eqn, nI_neq, nI_nn, nI_len, nI_ltn, ngI_le, ngI_lt, nng, sm10, sm8, shr_n, shl_n, and_1, fa_or, leT, leF, ltT, ltF, eqT, eqF, m_starts, g1, b1, x1, x4, k1, x2]
        exact ih (nI (i + 1), nI u, nI w, _, da') (nI (i + 1), nI w, nI u, n', la', lh', ls') ⟨rfl, rfl, Or.inr ⟨u, w, z1, z2, rfl, rfl, rfl, rfl⟩, i, g2⟩
      · simp (disch := omega) only [nm_q, bd1_some, bd2_some, bd3_some, bd4_some, bd5_some, bd6_some, bd7_some, bd8_some, bd9_some, bd10_some, bd11_some, bd1_ite, ↓reduceIte, gd_nI, gb_nI, gb_ite, li, liL, nI_add, nI_1, pk_sub, pk_mul, pk_div, nI_clamp, nI_eq, nI_leI, nI_ltI, nI_eqn, nI_neq, nI_nn, nI_len, nI_ltn, ngI_le, ngI_lt, nng, sm10, sm8, shr_n, shl_n, and_1, fa_or, leT, leF, ltT, ltF, eqT, eqF, m_starts, g1, b1, x1, x4, k1, x2]
        exact ih (nI (i + 1), nI _, nI i, _, da') (nI (i + 1), nI i, nI _, n', la', lh', ls') ⟨rfl, rfl, Or.inr ⟨_, i, x3, by omega, rfl, rfl, rfl, rfl⟩, i, g2⟩
  · rintro ⟨a, b, c, tr, da⟩ ⟨a', b', c', now, la, lh, ls⟩ n m hw
    obtain ⟨e1, e2, _⟩ := id hw
    simp only at e1 e2 ⊢
    subst e1 e2
    rw [fX5_when_L41, fX6_when_L25]
    simp (disch := omega) only [nm_q, bd1_some, bd2_some, bd3_some, bd4_some, bd5_some, bd6_some, bd7_some, bd8_some, bd9_some, bd10_some, bd11_some, bd1_ite, ↓reduceIte, gd_nI, gb_nI, gb_ite, li, liL, nI_add, nI_1, pk_sub, pk_mul, pk_div, nI_clamp, nI_eq, nI_leI, nI_ltI, nI_eqn, nI_neq, nI_nn, nI_len, nI_ltn, ngI_le, ngI_lt, nng, sm10, sm8, shr_n, shl_n, and_1, fa_or, leT, leF, ltT, ltF, eqT, eqF]
    exact hE _ _ hw
theorem ev_when (v : VT) (rd : RT) (dr : CT) (nw : CT) (tr : CT) (da : DT) (i0 : CT) (i1 : CT) (s0 : ST) (s1 : ST) (s2 : ST) (s3 : ST) (st : AI) (now : AI) (isKept : AI) (hearers : Int32) (draft : AI) (dHearers : Int32) (dWalls : Int32) (toldWinds : Int32) (tape : AI) (taped : Int32) (pos : Int32) (frm : Int32) (sort : Int32) (value : Int32) (fault : Int32) (wrongAt : Int32) (landed : AI) (landedIn : AI) (stepped : AI) (isThere : AI) (isAt : AI) (isNext : AI) (landSum : Int64) (heardSum : Int64) (allWays : Int64) (ways : AI) (drawn : AI) (lanes : AI) (sizes : AI) (cells : AI) (torn : Int32) (before : AI) (hR : Rel v rd nw i0 i1 s0 s1 s2 s3 st isKept hearers tape taped fault lanes sizes cells torn) (p1 : Int32) (p2 : Int32) : ∃ (res : Int32) (tr_x : CT) (da_x : DT) (now_x : AI) (landed_x : AI) (landedIn_x : AI) (stepped_x : AI), fX5_when p1 p2 v nw tr da = some (res, tr_x, da_x) ∧ fX6_when p1 p2 st now hearers landed landedIn stepped = some (res, now_x, landed_x, landedIn_x, stepped_x) ∧ (Rel v rd nw i0 i1 s0 s1 s2 s3 st isKept hearers tape taped fault lanes sizes cells torn) := by
  have hR0 := hR
  obtain ⟨⟨K, hK, hc, hm⟩, r0, r1, rt, rf, q0, q1, q2, q3, rl⟩ := hR
  have hm0 := RCm0 hm
  have hN := WF_N hK
  rcases isSay hN hc.2.2.1 hm0.2.2.1 p1 with ⟨s, hs, rfl, f1, f2⟩ | ⟨f1, f2⟩
  · rcases isPt p2 with ⟨j, hj, rfl, h3⟩ | ⟨h1, h2⟩
    · have key : T5 (fX5_when (nI s) (nI j) v nw tr da) (fX6_when (nI s) (nI j) st now hearers landed landedIn stepped) := by
        obtain ⟨F, hF⟩ : ∃ F, F = 4096 := ⟨_, rfl⟩
        rw [fX5_when, f1, bd1_some, if_neg (show ¬ nI 1 = 0 from n10), if_neg (nI_pos (show j < 2 ^ 31 by omega)), if_pos (show nI j ≤ 1 from nI_le (b := 1) (by omega) (by omega)), fX0_copyTo, bd1_some, fX6_when, f2, bd1_some, if_neg (show ¬ nI 1 = 0 from n10), h3, bd1_some, if_neg (show ¬ nI 1 = 0 from n10), ← hF]
        refine when_lk hK hm hs _ _ T5 ?_ F (by omega) nw da now landed landedIn stepped ⟨_, by rw [set_same]; exact hc⟩
        rintro ⟨a, b, c, tr, da⟩ ⟨a', b', c', now, la, lh, ls⟩ ⟨_, _, e3, _⟩
        simp only at e3 ⊢
        have h2 : b = c' ∧ c = b' := by
          rcases e3 with ⟨y1, y2, y3, y4⟩ | ⟨u, w, z1, z2, y1, y2, y3, y4⟩
          · rw [y1, y2, y3, y4]; exact ⟨rfl, rfl⟩
          · rw [y1, y2, y3, y4]; exact ⟨rfl, rfl⟩
        rw [h2.1, h2.2]
        by_cases c0 : nI j = 0
        · rw [if_pos c0, if_pos c0]; exact T5_i
        · rw [if_neg c0, if_neg c0]; exact T5_i
      obtain ⟨res, a1, a2, a3, a4, a5, a6, e1, e2⟩ := key
      exact ⟨res, a1, a2, a3, a4, a5, a6, e1, e2, hR0⟩
    · refine ⟨-nI 1, tr, da, now, landed, landedIn, stepped, ?_, ?_, hR0⟩
      · rw [fX5_when, f1, bd1_some, if_neg (show ¬ nI 1 = 0 from n10)]
        exact rgA _ _ h1
      · rw [fX6_when, f2, bd1_some, if_neg (show ¬ nI 1 = 0 from n10), h2]; rfl
  · refine ⟨-nI 1, tr, da, now, landed, landedIn, stepped, ?_, ?_, hR0⟩
    · rw [fX5_when, f1]; rfl
    · rw [fX6_when, f2]; rfl
