-- drift, as a whole
theorem smG (a b : Nat) : a - a / b * b = a % b := by
  have := Nat.div_add_mod a b
  rw [Nat.mul_comm] at this
  omega
theorem gz_nI {β : Type} {n : Nat} (k : Option β) (h : 0 < n) (hN : n < 2 ^ 31) : gz (nI n) k = k := if_neg (by rw [show (0 : Int32) = nI 0 from rfl, nI_eq hN (by omega)]; omega)
def dfI (K : KT) (i : Nat) (x : Int32 × Int32 × Int32 × CT × DT) (y : Int32 × Int32 × Int32 × AI × AI × AI × AI × AI) : Prop := x.1 = nI i ∧ y.1 = nI i ∧ y.2.2.1 = x.2.1 ∧ y.2.1 = x.2.2.1 ∧ ∃ K', WFk K' ∧ LikeK K K' ∧ RCc K' x.2.2.2.1 ∧ DR K' y.2.2.2.2.2.2.2 ∧ (0 < i → RDy K' x.2.2.2.2 ∧ RMy K' y.2.2.2.1 y.2.2.2.2.1 y.2.2.2.2.2.1 y.2.2.2.2.2.2.1)
theorem drift_lk {K : KT} {nw : CT} {st : AI} {h : Int32} {n0 : Nat} (hK : WFk K) (hc : RCc K nw) (hm : RCm K st 0 h) (h0 : 0 < kN K) (hn60 : n0 ≤ 60) (A : Int32 → Int32 → Int32 → CT → DT → Option (Int32 × CT × DT)) (B : Int32 → Int32 → Int32 → AI → AI → AI → AI → AI → Option (Int32 × AI × AI × AI × AI × AI)) (P : Option (Int32 × CT × DT) → Option (Int32 × AI × AI × AI × AI × AI) → Prop) (hE : ∀ x y, dfI K n0 x y → P (A x.1 x.2.1 x.2.2.1 x.2.2.2.1 x.2.2.2.2) (B y.1 y.2.1 y.2.2.1 y.2.2.2.1 y.2.2.2.2.1 y.2.2.2.2.2.1 y.2.2.2.2.2.2.1 y.2.2.2.2.2.2.2)) (F : Nat) (hF : 60 < F) (p : Int32) (da : DT) (now la lh ls d : AI) (hd : DR K d) : P (fX5_drift_L59 nw (nI n0) A F 0 p 0 nw da) (fX6_drift_L112 st h (nI n0) B F 0 0 p now la lh ls d) := by
  have hN := WF_N hK
  have hH := WF_H hK
  have hp := WF_Hp hK
  have e43 := (RCm0 hm).2.2.1
  have e5 := (RCm0 hm).2.2.2.2.1
  have eSa := hc.2.2.1
  refine lock (fun n (t : Int32 × Int32 × Int32 × CT × DT) => fX5_drift_L59 nw (nI n0) A n t.1 t.2.1 t.2.2.1 t.2.2.2.1 t.2.2.2.2) (fun n (t : Int32 × Int32 × Int32 × AI × AI × AI × AI × AI) => fX6_drift_L112 st h (nI n0) B n t.1 t.2.1 t.2.2.1 t.2.2.2.1 t.2.2.2.2.1 t.2.2.2.2.2.1 t.2.2.2.2.2.2.1 t.2.2.2.2.2.2.2) (dfI K) P n0 ?_ ?_ n0 0 F F (0, p, 0, nw, da) (0, 0, p, now, la, lh, ls, d) (by omega) (by omega) (by omega) ⟨rfl, rfl, rfl, rfl, K, hK, ⟨rfl, rfl, rfl, rfl, fun _ _ _ _ => rfl⟩, hc, hd, fun h => absurd h (by omega)⟩
  · rintro i ⟨x1, x2, x3, tr, da⟩ ⟨y1, y2, y3, now, la, lh, ls, d⟩ n m hi ⟨e1, e2, e3, e4, K', k1, k2, k3, k4, _⟩ ih
    simp only at e1 e2 e3 e4 k3 k4 ⊢
    subst e1 e2 e3 e4
    obtain ⟨g, hg, eg⟩ := got_nI ((y3 * 1103515245 + 12345) >>> ((16 : Int32) &&& 31))
    have eC := (got_eq (y3 * 1103515245 + 12345)).trans eg
    have l3 : kN K' = kN K := k2.2.2.1
    have l4 : kH K' = kH K := congrArg (fun x => x.1) k2.2.2.2.1
    have l5 : kHp K' = kHp K := congrArg (fun x => x.2.1) k2.2.2.2.1
    have h0' : 0 < kN K' := by rw [l3]; exact h0
    have hw := WF_drw k1 h0' g
    have hml := Nat.mod_lt g h0
    have r := RCc_set (s := g % kN K') (k := 3) (v := 1 + g / 32 % 9) (RCc_set (s := g % kN K') (k := 2) (v := g / 8 % 4) k3)
    obtain ⟨da', g1, g2⟩ := c_day da hw r
    have g3 := c_heard g2 r (WF_N hw) (WF_H hw) (WF_Hp hw)
    have dl := Nat.div_mul_le_self g (kN K)
    obtain ⟨G, hG⟩ : ∃ G, G = 4096 := ⟨_, rfl⟩
    rw [fX5_drift_L59, fX6_drift_L112, ← hG]
    simp only [nm_q, eC, eg]
    rw [l3] at g1 g3 r
    simp only [show tvk 2 (g / 8 % 4) = g / 8 % 4 from rfl, show tvk 3 (1 + g / 32 % 9) = 1 + g / 32 % 9 from rfl] at g1 g3 r
    have r2 := r
    rw [show setT (setT K' (g % kN K) 2 (g / 8 % 4)) (g % kN K) 3 (1 + g / 32 % 9) = drw K' g by unfold drw; rw [l3]] at r2
    have dr := DR_drw g k4
    rw [l3] at dr
    have lk := like_drw k2 g
    rw [if_neg (nI_ge hi (by omega)), if_neg (nI_ge hi (by omega)), eSa, e43, gz_nI _ h0 (by omega), gz_nI _ h0 (by omega), show nI g - nI g / nI (kN K) * nI (kN K) = nI (g % kN K) from pk_rem (by omega) h0 (by omega)]
    simp (disch := omega) only [gd_nI, nI_clamp, li, pk_div, pk_mul, pk_sub, nI_add, smG, g1, bd1_some, g3, m_starts]
    refine m_put hK hm lk dr _ _ ?_ G (by omega) now
    intro now hr
    obtain ⟨n', la', lh', ls', j1, j2⟩ := m_day la lh ls hw hr
    have j3 := m_heard (hearers := h) j2 (by rw [e5]; show _ = nI (kH K'); rw [l4]) (WF_N hw) (WF_H hw) (WF_Hp hw)
    simp only [j1, bd4_some, j3, bd1_some]
    exact ih (nI (i + 1), _, _, _, da') (nI (i + 1), _, _, n', la', lh', ls', _) ⟨rfl, rfl, rfl, rfl, drw K' g, hw, lk, r2, dr, fun _ => ⟨g2, j2⟩⟩
  · rintro ⟨x1, x2, x3, tr, da⟩ ⟨y1, y2, y3, now, la, lh, ls, d⟩ n m hh
    obtain ⟨e1, e2, _⟩ := id hh
    simp only at e1 e2 ⊢
    subst e1 e2
    rw [fX5_drift_L59, fX6_drift_L112]
    simp (disch := omega) only [leT, leF, ltT, ltF, eqT, eqF, nI_leI, if_true]
    exact hE _ _ hh
theorem ev_drift (v : VT) (rd : RT) (dr : CT) (nw : CT) (tr : CT) (da : DT) (i0 : CT) (i1 : CT) (s0 : ST) (s1 : ST) (s2 : ST) (s3 : ST) (st : AI) (now : AI) (isKept : AI) (hearers : Int32) (draft : AI) (dHearers : Int32) (dWalls : Int32) (toldWinds : Int32) (tape : AI) (taped : Int32) (pos : Int32) (frm : Int32) (sort : Int32) (value : Int32) (fault : Int32) (wrongAt : Int32) (landed : AI) (landedIn : AI) (stepped : AI) (isThere : AI) (isAt : AI) (isNext : AI) (landSum : Int64) (heardSum : Int64) (allWays : Int64) (ways : AI) (drawn : AI) (lanes : AI) (sizes : AI) (cells : AI) (torn : Int32) (before : AI) (hR : Rel v rd nw i0 i1 s0 s1 s2 s3 st isKept hearers tape taped fault lanes sizes cells torn) (p1 : Int32) (p2 : Int32) (p3 : Int32) : ∃ (res : Int32) (tr_x : CT) (da_x : DT) (now_x : AI) (landed_x : AI) (landedIn_x : AI) (stepped_x : AI) (drawn_x : AI), fX5_drift p1 p2 p3 v nw tr da = some (res, tr_x, da_x) ∧ fX6_drift p1 p2 p3 st now hearers landed landedIn stepped drawn = some (res, now_x, landed_x, landedIn_x, stepped_x, drawn_x) ∧ (Rel v rd nw i0 i1 s0 s1 s2 s3 st isKept hearers tape taped fault lanes sizes cells torn) := by
  have hR0 := hR
  obtain ⟨⟨K, hK, hc, hm⟩, r0, r1, rt, rf, q0, q1, q2, q3, rl⟩ := hR
  have hm0 := RCm0 hm
  have hN := WF_N hK
  rcases in_rg p2 1 60 (by omega) (by omega) with ⟨n0, h1, h2, rfl, h3⟩ | ⟨h1, h2⟩
  · have z1 : ¬ nI n0 < 1 := by rw [show (1 : Int32) = nI 1 from rfl, fa_lt, nI_toInt (by omega), nI_toInt (by omega)]; omega
    have z2 : ¬ (60 : Int32) < nI n0 := by rw [show (60 : Int32) = nI 60 from rfl, fa_lt, nI_toInt (by omega), nI_toInt (by omega)]; omega
    have h3 : fX6_in (nI n0).toInt64 1 60 = some (nI 1) := h3
    rcases isPt p3 with ⟨j, hj, rfl, h4⟩ | ⟨h4, h5⟩
    · have z3 : ¬ nI j < 0 := nI_pos (show j < 2 ^ 31 by omega)
      have z4 : nI j ≤ 1 := nI_le (b := 1) (by omega) (by omega)
      by_cases c0 : kN K = 0
      · refine ⟨-nI 2, tr, da, now, landed, landedIn, stepped, drawn, ?_, ?_, hR0⟩
        · rw [fX5_drift, if_neg z1, if_neg z2, if_neg z3, if_pos z4, if_neg (by rw [hc.2.2.1, c0]; decide)]; rfl
        · rw [fX6_drift, nm_q, h3, bd1_some, if_neg (show ¬ nI 1 = 0 from n10), h4, bd1_some, if_neg (show ¬ nI 1 = 0 from n10), if_pos (by rw [hm0.2.2.1, c0]; rfl)]; rfl
      · have h0 : 0 < kN K := by omega
        have key : T6 (fX5_drift p1 (nI n0) (nI j) v nw tr da) (fX6_drift p1 (nI n0) (nI j) st now hearers landed landedIn stepped drawn) := by
          obtain ⟨F, hF⟩ : ∃ F, F = 4096 := ⟨_, rfl⟩
          rw [fX5_drift, if_neg z1, if_neg z2, if_neg z3, if_pos z4, if_pos (by rw [hc.2.2.1]; exact nI_lt (a := 0) h0 (by omega)), fX0_copyTo, bd1_some, fX6_drift, nm_q, h3, bd1_some, if_neg (show ¬ nI 1 = 0 from n10), h4, bd1_some, if_neg (show ¬ nI 1 = 0 from n10), if_neg (by rw [hm0.2.2.1, show (0 : Int32) = nI 0 from rfl, nI_eq (by omega) (by omega)]; exact c0), ← hF]
          refine m_drawn0 hK hm drawn (fun y => T6 _ y) _ ?_ F (by omega)
          intro d hd
          refine drift_lk hK hc hm h0 h2 _ _ T6 ?_ F (by omega) p1 da now landed landedIn stepped d hd
          rintro ⟨x1, x2, x3, tr, da⟩ ⟨y1, y2, y3, now, la, lh, ls, d⟩ ⟨_, _, e3, e4, K', k1, k2, k3, k4, k5⟩
          simp only at e3 e4 k3 k4 k5 ⊢
          subst e3 e4
          obtain ⟨k6, k7⟩ := k5 (by omega)
          have l3 : kN K' = kN K := k2.2.2.1
          have h0' : 0 < kN K' := by rw [l3]; exact h0
          obtain ⟨a1, a2, _⟩ := k6.2.2.2 0 h0'
          obtain ⟨b1, _⟩ := k7.2 0 h0'
          by_cases cj : nI j = 0
          · rw [if_pos cj, if_pos cj]; exact T6_i
          · rw [if_neg cj, if_neg cj, nm_q, a1, c_cell a2, bd1_some, nm_q, b1]; exact T6_i
        obtain ⟨res, a1, a2, a3, a4, a5, a6, a7, e1, e2⟩ := key
        exact ⟨res, a1, a2, a3, a4, a5, a6, a7, e1, e2, hR0⟩
    · refine ⟨-nI 1, tr, da, now, landed, landedIn, stepped, drawn, ?_, ?_, hR0⟩
      · rw [fX5_drift, if_neg z1, if_neg z2]
        exact rgA _ _ h4
      · rw [fX6_drift, nm_q, h3, bd1_some, if_neg (show ¬ nI 1 = 0 from n10), h5]; rfl
  · refine ⟨-nI 1, tr, da, now, landed, landedIn, stepped, drawn, ?_, ?_, hR0⟩
    · exact rgC (a := 1) (b := 60) _ _ (by omega) h1
    · have h2 : fX6_in p2.toInt64 1 60 = some (nI 0) := h2
      rw [fX6_drift, nm_q, h2]; rfl
