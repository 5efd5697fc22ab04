-- a whole line, and the whole text
theorem stop_b {n : Nat} {t : Nat → Nat} {tape : AI} {a : Nat} {r : RT} {K : KT} {dr : CT} {draft : AI} {dH dW : Int32} {th : Nat} {pos frm sort value fault wrongAt : Int32} (hb : BT n t tape) (h : Cls n t a r) (ha : a ≤ n) (hS : Sync n t a pos frm sort value fault wrongAt) (hD : DK2 K dr draft dH dW) (hth : rTh r = nI th) (hth2 : th < 1024) : LX n t a (bd2 (fX2_readStop r) fun r10 r_11 => if r10 = 0 then some (0, r_11, dr) else some (1, r_11, dr)) (bd2 ((if fault = 0 then (bd1 ((if sort = 3 then (some 1) else (some 0)) : Option (Int32)) fun y46 => bd2 (fX6_needs y46 2 frm fault wrongAt) fun fault_49 wrongAt_50 => some (fault_49, wrongAt_50)) else (some (fault, wrongAt))) : Option (Int32 × Int32)) fun fault_34 wrongAt_35 => bd6 (fX6_takes tape (nI n) pos frm sort value fault_34 wrongAt_35) fun pos_38 frm_39 sort_40 value_41 fault_42 wrongAt_43 => some (draft, dH, dW, nI th, pos_38, frm_39, sort_40, value_41, fault_42, wrongAt_43)) := by
  obtain ⟨r', q1, q2, q3⟩ := c_next h ha
  have hE := tkE_b (t := t) ha
  have hSb := tkS_b (t := t) ha
  have hk4 := tkK_le n t a
  rw [fX2_readStop]
  rcases q3 with ⟨k, e1, e2, e3, e4⟩ | ⟨k, e1, e2, e3⟩
  · rcases hS with ⟨_, g1, g2, g3, g4, g5⟩ | ⟨g, _⟩
    · subst g1 g2 g3 g5
      rw [e1, bd2_some, if_neg (show ¬ nI 1 = 0 from n10), e3, if_pos (show nI 0 = 0 from rfl)]
      by_cases k3 : tkK n t a = 3
      · obtain ⟨a1, a2, a3, a4, a5, a6, t1, t2⟩ := m_takes hb hE.2.1 (nI (tkS n t a)) (nI (tkK n t a)) value wrongAt
        rw [if_pos (show nI (tkK n t a) = 3 by rw [k3]; rfl), if_pos (show nI (tkK n t a) = 3 by rw [k3]; rfl), bd1_some, show fX6_needs 1 2 (nI (tkS n t a)) (nI 0) wrongAt = some (nI 0, wrongAt) from rfl, bd2_some, bd2_some, bd2_some, t1, bd6_some]
        exact Or.inl ⟨r', dr, K, tkE n t a, draft, dH, dW, th, a1, a2, a3, a4, a5, a6, rfl, rfl, by omega, hE.2.1, e2, t2, hD, q1.trans hth, hth2⟩
      · have ne : ¬ nI (tkK n t a) = 3 := by rw [show (3 : Int32) = nI 3 from rfl, nI_eq (by omega) (by omega)]; exact k3
        rw [if_neg ne, if_neg ne, bd1_some, show fX6_needs 0 2 (nI (tkS n t a)) (nI 0) wrongAt = some (nI 2, nI (tkS n t a)) from rfl, bd2_some, bd2_some, m_takesF _ _ _ _ _ _ (by omega) (by omega), bd6_some]
        exact Or.inr ⟨rPl' (rFl' r' 2) (rSt (rFl' r' 2)), dr, 2, tkS n t a, draft, dH, dW, nI th, _, _, _, _, rfl, rfl, by omega, by omega, rfl, q2⟩
    · exact absurd g k
  · rcases hS with ⟨g, _⟩ | ⟨_, b1, b2, _, b3, b4⟩
    · exact absurd k g
    · subst b3 b4
      rw [e1, bd2_some, if_pos (show nI 0 = 0 from rfl), if_neg (nz b1 b2), bd2_some, bd2_some, m_takesF _ _ _ _ _ _ b1 b2, bd6_some]
      exact Or.inr ⟨r', dr, 1, tkS n t a, draft, dH, dW, nI th, _, _, _, _, rfl, rfl, by omega, by omega, e2, e3⟩
/-- a body and its stop -/
theorem then_b {n : Nat} {t : Nat → Nat} {tape : AI} {a : Nat} {x : Option (Int32 × RT × CT)} {y : Option LY} (hb : BT n t tape) (h : LX n t a x y) : LX n t a (bd3 x fun r5 r_6 dr_7 => if r5 = 0 then some (0, r_6, dr_7) else bd2 (fX2_readStop r_6) fun r10 r_11 => if r10 = 0 then some (0, r_11, dr_7) else some (1, r_11, dr_7)) (bd10 y fun draft_23 dHearers_24 dWalls_25 toldWinds_26 pos_27 frm_28 sort_29 value_30 fault_31 wrongAt_32 => bd2 ((if fault_31 = 0 then (bd1 ((if sort_29 = 3 then (some 1) else (some 0)) : Option (Int32)) fun y46 => bd2 (fX6_needs y46 2 frm_28 fault_31 wrongAt_32) fun fault_49 wrongAt_50 => some (fault_49, wrongAt_50)) else (some (fault_31, wrongAt_32))) : Option (Int32 × Int32)) fun fault_34 wrongAt_35 => bd6 (fX6_takes tape (nI n) pos_27 frm_28 sort_29 value_30 fault_34 wrongAt_35) fun pos_38 frm_39 sort_40 value_41 fault_42 wrongAt_43 => some (draft_23, dHearers_24, dWalls_25, toldWinds_26, pos_38, frm_39, sort_40, value_41, fault_42, wrongAt_43)) := by
  rcases h with ⟨r, dr, K, a', draft, dH, dW, th, pos, frm, sort, value, fault, wrongAt, rfl, rfl, h1, h2, h3, h4, h5, h6, h7⟩ | ⟨r, dr, f, w, draft, dH, dW, tW, pos, frm, sort, value, rfl, rfl, h1, h2, h3, h4⟩
  · rw [bd3_some, bd10_some, if_neg (show ¬ nI 1 = 0 from n10)]
    rcases stop_b hb h3 h2 h4 h5 h6 h7 with ⟨r, dr, K, a2, draft, dH, dW, th, pos, frm, sort, value, fault, wrongAt, e1, e2, g1, g2, g3⟩ | g
    · exact Or.inl ⟨r, dr, K, a2, draft, dH, dW, th, pos, frm, sort, value, fault, wrongAt, e1, e2, by omega, g2, g3⟩
    · exact Or.inr g
  · rw [bd3_some, bd10_some, if_pos (show nI 0 = 0 from rfl), if_neg (nz h1 h2), bd2_some, m_takesF _ _ _ _ _ _ h1 h2, bd6_some]
    exact Or.inr ⟨r, dr, f, w, draft, dH, dW, tW, pos, frm, sort, value, rfl, rfl, h1, h2, h3, h4⟩
def rmB (K : KT) (j : Nat) : Bool := if j = 4 then decide (pcnt (kW K) < 12) else if j = 6 then decide (kH K < 4) else if j = 5 then true else decide (kN K < 5)
/-- the reference's room for a line -/
theorem m_room {K : KT} {draft : AI} {dH dW : Int32} {j : Nat} (hK : WFk K) (hm : RCm K draft 0 dH) (hw : dW = nI (pcnt (kW K))) (hj : j ≤ 7) : fX6_hasRoom (cdL j) draft dH dW = some (if rmB K j then nI 1 else nI 0) := by
  have hN := WF_N hK
  have hH := WF_H hK
  have hP : pcnt (kW K) ≤ 12 := hK.2.1
  have hm0 := RCm0 hm
  have e43 := hm0.2.2.1
  have eH := hm0.2.2.2.2.1
  subst hw
  have hcs : j = 0 ∨ j = 1 ∨ j = 2 ∨ j = 3 ∨ j = 4 ∨ j = 5 ∨ j = 6 ∨ j = 7 := by omega
  have say : ∀ x : Int32, ¬ x = 4 → ¬ x = 5 → ¬ x = 6 → fX6_hasRoom x draft dH (nI (pcnt (kW K))) = some (if decide (kN K < 5) = true then nI 1 else nI 0) := fun x a b c => by
    rw [fX6_hasRoom, if_neg a, if_neg b, if_neg c, nm_q, e43]
    by_cases d : kN K < 5
    · rw [if_neg (show ¬ (5 : Int32) ≤ nI (kN K) from nI_ge (b := 5) d (by omega)), decide_eq_true d]; rfl
    · rw [if_pos (show (5 : Int32) ≤ nI (kN K) from nI_le (a := 5) (by omega) (by omega)), decide_eq_false d]; rfl
  rcases hcs with rfl | rfl | rfl | rfl | rfl | rfl | rfl | rfl
  · exact say _ (by decide) (by decide) (by decide)
  · exact say _ (by decide) (by decide) (by decide)
  · exact say _ (by decide) (by decide) (by decide)
  · exact say _ (by decide) (by decide) (by decide)
  · rw [show cdL 4 = 4 from rfl, fX6_hasRoom, if_pos rfl, show rmB K 4 = decide (pcnt (kW K) < 12) from rfl]
    by_cases d : pcnt (kW K) < 12
    · rw [if_neg (show ¬ (12 : Int32) ≤ nI (pcnt (kW K)) from nI_ge (b := 12) d (by omega)), decide_eq_true d]; rfl
    · rw [if_pos (show (12 : Int32) ≤ nI (pcnt (kW K)) from nI_le (a := 12) (by omega) (by omega)), decide_eq_false d]; rfl
  · rfl
  · rw [show cdL 6 = 5 from rfl, fX6_hasRoom, if_neg (by decide), if_pos rfl, eH, show rmB K 6 = decide (kH K < 4) from rfl]
    by_cases d : kH K < 4
    · rw [if_neg (show ¬ (4 : Int32) ≤ nI (kH K) from nI_ge (b := 4) d (by omega)), decide_eq_true d]; rfl
    · rw [if_pos (show (4 : Int32) ≤ nI (kH K) from nI_le (a := 4) (by omega) (by omega)), decide_eq_false d]; rfl
  · exact say _ (by decide) (by decide) (by decide)
/-- a line, both sides: its token stands at a -/
theorem line_b {n : Nat} {t : Nat → Nat} {tape : AI} {a : Nat} {r : RT} {K : KT} {dr : CT} {draft : AI} {dH dW : Int32} {th : Nat} {pos frm sort value fault wrongAt : Int32} (hb : BT n t tape) (ha : a ≤ n) (h : Cls n t (tkE n t a) r) (hs : rSt r = nI (tkS n t a)) (ht : rTo r = nI (tkK n t a)) (hG : Good n t a pos frm sort value fault) (hD : DK2 K dr draft dH dW) (hth : rTh r = nI th) (hth2 : th < 1024) : LX n t (tkE n t a) (fX2_readLine r dr) (fX6_readLine draft dH dW (nI th) tape (nI n) pos frm sort value fault wrongAt) := by
  have hE := tkE_b (t := t) ha
  have hSb := tkS_b (t := t) ha
  have hk4 := tkK_le n t a
  obtain ⟨k, g1, g2, g3, g4, g5⟩ := hG
  subst g1 g2 g3 g5
  obtain ⟨hK, hc, hm, hw⟩ := id hD
  have hN := WF_N hK
  have hH := WF_H hK
  have hP : pcnt (kW K) ≤ 12 := hK.2.1
  -- no such line
  have none_b : ∀ j : Nat, j = 7 → LX n t (tkE n t a) (bd2 (fX2_flawed 2 r) fun r74 r_75 => gb r74 <| some (r74, r_75, dr)) (bd1 ((if cdL j = (-4) then (some 0) else (some 1)) : Option (Int32)) fun y4 => bd2 (fX6_needs y4 2 (nI (tkS n t a)) (nI 0) wrongAt) fun fault_7 wrongAt_8 => bd1 (fX6_hasRoom (cdL j) draft dH dW) fun r10 => bd2 (fX6_needs r10 5 (nI (tkS n t a)) fault_7 wrongAt_8) fun fault_12 wrongAt_13 => bd6 (fX6_takes tape (nI n) (nI (tkE n t a)) (nI (tkS n t a)) (nI (tkK n t a)) value fault_12 wrongAt_13) fun pos_15 frm_16 sort_17 value_18 fault_19 wrongAt_20 => if fault_19 ≤ 0 then (bd10 (fX6_readLineOf (cdL j) draft dH dW (nI th) tape (nI n) pos_15 frm_16 sort_17 value_18 fault_19 wrongAt_20) fun draft_23 dHearers_24 dWalls_25 toldWinds_26 pos_27 frm_28 sort_29 value_30 fault_31 wrongAt_32 => bd2 ((if fault_31 = 0 then (bd1 ((if sort_29 = 3 then (some 1) else (some 0)) : Option (Int32)) fun y46 => bd2 (fX6_needs y46 2 frm_28 fault_31 wrongAt_32) fun fault_49 wrongAt_50 => some (fault_49, wrongAt_50)) else (some (fault_31, wrongAt_32))) : Option (Int32 × Int32)) fun fault_34 wrongAt_35 => bd6 (fX6_takes tape (nI n) pos_27 frm_28 sort_29 value_30 fault_34 wrongAt_35) fun pos_38 frm_39 sort_40 value_41 fault_42 wrongAt_43 => some (draft_23, dHearers_24, dWalls_25, toldWinds_26, pos_38, frm_39, sort_40, value_41, fault_42, wrongAt_43)) else (some (draft, dH, dW, nI th, pos_15, frm_16, sort_17, value_18, fault_19, wrongAt_20))) := by
    rintro j rfl
    rw [if_pos (show cdL 7 = -4 from rfl), bd1_some, show fX6_needs 0 2 (nI (tkS n t a)) (nI 0) wrongAt = some (nI 2, nI (tkS n t a)) from rfl]
    have e : ∀ (x : Int32), (bd2 (fX6_needs x 5 (nI (tkS n t a)) (nI 2) (nI (tkS n t a))) : (Int32 → Int32 → Option LY) → Option LY) = bd2 (some (nI 2, nI (tkS n t a))) := fun x => by
      congr 1
      unfold fX6_needs
      rw [if_neg (show ¬ nI 2 = 0 by decide), ite_self]
    simp only [bd2_some, m_room hK hm hw (show 7 ≤ 7 by omega), bd1_some, e]
    rw [m_takesF _ _ _ _ _ _ (by omega) (by omega), bd6_some, if_neg (nle (by omega) (by omega))]
    exact Or.inr ⟨rPl' (rFl' r 2) (rSt (rFl' r 2)), dr, 2, tkS n t a, draft, dH, dW, nI th, _, _, _, _, rfl, rfl, by omega, by omega, rfl, hs⟩
  -- no room for the line
  have full_b : ∀ j : Nat, j ≤ 6 → rmB K j = false → LX n t (tkE n t a) (bd3 (bd2 (fX2_flawed 5 r) fun r21 r_22 => gb r21 <| some (r21, r_22, dr)) fun r5 r_6 dr_7 => if r5 = 0 then some (0, r_6, dr_7) else bd2 (fX2_readStop r_6) fun r10 r_11 => if r10 = 0 then some (0, r_11, dr_7) else some (1, r_11, dr_7)) (some (draft, dH, dW, nI th, nI (tkE n t a), nI (tkS n t a), nI (tkK n t a), value, nI 5, nI (tkS n t a))) := fun j _ _ => Or.inr ⟨rPl' (rFl' r 5) (rSt (rFl' r 5)), dr, 5, tkS n t a, draft, dH, dW, nI th, _, _, _, _, rfl, rfl, by omega, by omega, rfl, hs⟩
  rw [fX2_readLine, fX6_readLine, ht]
  by_cases k1 : tkK n t a = 1
  · obtain ⟨j, h7, n1, n2⟩ := line_both (tape := tape) hb h hs hE.1 hE.2.1
    rw [if_pos (show nI (tkK n t a) = 1 by rw [k1]; rfl), n1, bd1_some, bd1_some, if_pos (show nI (tkK n t a) = 1 by rw [k1]; rfl), n2, bd1_some, bd1_some]
    by_cases j7 : j = 7
    · subst j7
      rw [if_neg (by decide), if_neg (by decide), if_neg (by decide), if_neg (by decide), if_neg (by decide), if_neg (by decide), if_neg (by decide)]
      exact none_b 7 rfl
    · have hcd : ¬ cdL j = -4 := by
        have hcs : j = 0 ∨ j = 1 ∨ j = 2 ∨ j = 3 ∨ j = 4 ∨ j = 5 ∨ j = 6 := by omega
        rcases hcs with rfl | rfl | rfl | rfl | rfl | rfl | rfl <;> decide
      rw [if_neg hcd, bd1_some, show fX6_needs 1 2 (nI (tkS n t a)) (nI 0) wrongAt = some (nI 0, wrongAt) from rfl, bd2_some, m_room hK hm hw (by omega), bd1_some]
      -- the reference beyond the room
      obtain ⟨a1, a2, a3, a4, a5, a6, t1, t2⟩ := m_takes hb hE.2.1 (nI (tkS n t a)) (nI (tkK n t a)) value wrongAt
      have go : ∀ (x : Option (Int32 × RT × CT)) (y : Option LY), (tkK n t (tkE n t a) = 4 → ∃ r' dr', x = some (nI 0, r', dr') ∧ rFl r' = nI 1 ∧ rPl r' = nI (tkS n t (tkE n t a))) → LX n t (tkE n t a) x y → LX n t (tkE n t a) (bd3 x fun r5 r_6 dr_7 => if r5 = 0 then some (0, r_6, dr_7) else bd2 (fX2_readStop r_6) fun r10 r_11 => if r10 = 0 then some (0, r_11, dr_7) else some (1, r_11, dr_7)) (if a5 ≤ 0 then (bd10 y fun draft_23 dHearers_24 dWalls_25 toldWinds_26 pos_27 frm_28 sort_29 value_30 fault_31 wrongAt_32 => bd2 ((if fault_31 = 0 then (bd1 ((if sort_29 = 3 then (some 1) else (some 0)) : Option (Int32)) fun y46 => bd2 (fX6_needs y46 2 frm_28 fault_31 wrongAt_32) fun fault_49 wrongAt_50 => some (fault_49, wrongAt_50)) else (some (fault_31, wrongAt_32))) : Option (Int32 × Int32)) fun fault_34 wrongAt_35 => bd6 (fX6_takes tape (nI n) pos_27 frm_28 sort_29 value_30 fault_34 wrongAt_35) fun pos_38 frm_39 sort_40 value_41 fault_42 wrongAt_43 => some (draft_23, dHearers_24, dWalls_25, toldWinds_26, pos_38, frm_39, sort_40, value_41, fault_42, wrongAt_43)) else (some (draft, dH, dW, nI th, a1, a2, a3, a4, a5, a6))) := by
        intro x y hx hxy
        rcases t2 with g | ⟨g, b1, b2, _, b3, b4⟩
        · rw [if_pos (show a5 ≤ 0 by rw [g.2.2.2.2.2]; decide)]
          exact then_b hb hxy
        · rw [if_neg (by rw [b3]; exact nle b1 b2)]
          obtain ⟨r', dr', e1, e2, e3⟩ := hx g
          rw [e1, bd3_some, if_pos (show nI 0 = 0 from rfl), b3, b4]
          exact Or.inr ⟨r', dr', 1, tkS n t (tkE n t a), draft, dH, dW, nI th, a1, a2, a3, a4, rfl, rfl, by omega, by omega, e2, e3⟩
      cases rm : rmB K j with
      | false =>
        rw [ff_i, show fX6_needs (nI 0) 5 (nI (tkS n t a)) (nI 0) wrongAt = some (nI 5, nI (tkS n t a)) from rfl, bd2_some, m_takesF _ _ _ _ _ _ (by omega) (by omega), bd6_some, if_neg (nle (by omega) (by omega))]
        have fb := full_b j (by omega) rm
        have hcs : j ≤ 3 ∨ j = 4 ∨ j = 5 ∨ j = 6 := by omega
        rcases hcs with hj | rfl | rfl | rfl
        · have rm2 : ¬ kN K < 5 := by
            unfold rmB at rm
            rw [if_neg (by omega), if_neg (by omega), if_neg (by omega)] at rm
            simpa using rm
          have es : fX2_readSaying (nI j) r dr = bd2 (fX2_flawed 5 r) fun r21 r_22 => gb r21 <| some (r21, r_22, dr) := by
            rw [fX2_readSaying, hc.2.2.1, if_neg (show ¬ nI (kN K) < 5 by rw [show (5 : Int32) = nI 5 from rfl, fa_lt, nI_toInt (by omega), nI_toInt (by omega)]; omega)]
          rw [← es] at fb
          have hj4 : j = 0 ∨ j = 1 ∨ j = 2 ∨ j = 3 := by omega
          rcases hj4 with rfl | rfl | rfl | rfl
          · rw [if_pos (by decide)]; exact fb
          · rw [if_neg (by decide), if_pos (by decide)]; exact fb
          · rw [if_neg (by decide), if_neg (by decide), if_pos (by decide)]; exact fb
          · rw [if_neg (by decide), if_neg (by decide), if_neg (by decide), if_pos (by decide)]; exact fb
        · have rm2 : ¬ pcnt (kW K) < 12 := by simpa [rmB] using rm
          have es : fX2_readWall r dr = bd2 (fX2_flawed 5 r) fun r21 r_22 => gb r21 <| some (r21, r_22, dr) := by
            rw [fX2_readWall, (lN_of hc.1).1, c_pop (WF_W hK), bd1_some, if_neg (show ¬ nI (pcnt (kW K)) < 12 by rw [show (12 : Int32) = nI 12 from rfl, fa_lt, nI_toInt (by omega), nI_toInt (by omega)]; omega)]
          rw [← es] at fb
          rw [if_neg (by decide), if_neg (by decide), if_neg (by decide), if_neg (by decide), if_pos (by decide)]; exact fb
        · exact absurd rm (by simp [rmB])
        · have rm2 : ¬ kH K < 4 := by simpa [rmB] using rm
          have es : fX2_readHearer r dr = bd2 (fX2_flawed 5 r) fun r21 r_22 => gb r21 <| some (r21, r_22, dr) := by
            rw [fX2_readHearer, hc.2.2.2.2.1, if_neg (show ¬ nI (kH K) < 4 by rw [show (4 : Int32) = nI 4 from rfl, fa_lt, nI_toInt (by omega), nI_toInt (by omega)]; omega)]
          rw [← es] at fb
          rw [if_neg (by decide), if_neg (by decide), if_neg (by decide), if_neg (by decide), if_neg (by decide), if_neg (by decide), if_pos (by decide)]; exact fb
      | true =>
        rw [tt_i, show fX6_needs (nI 1) 5 (nI (tkS n t a)) (nI 0) wrongAt = some (nI 0, wrongAt) from rfl, bd2_some, t1, bd6_some]
        have hcs : j ≤ 3 ∨ j = 4 ∨ j = 5 ∨ j = 6 := by omega
        rcases hcs with hj | rfl | rfl | rfl
        · have rm2 : kN K < 5 := by
            unfold rmB at rm
            rw [if_neg (by omega), if_neg (by omega), if_neg (by omega)] at rm
            simpa using rm
          have b := go _ _ (fun k => say_x (j := j) h hE.2.1 hD rm2 k) (say_b (j := j) hb h hE.2.1 t2 hD rm2 hj hth hth2)
          have hj4 : j = 0 ∨ j = 1 ∨ j = 2 ∨ j = 3 := by omega
          rcases hj4 with rfl | rfl | rfl | rfl
          · rw [if_pos (by decide)]; exact b
          · rw [if_neg (by decide), if_pos (by decide)]; exact b
          · rw [if_neg (by decide), if_neg (by decide), if_pos (by decide)]; exact b
          · rw [if_neg (by decide), if_neg (by decide), if_neg (by decide), if_pos (by decide)]; exact b
        · have rm2 : pcnt (kW K) < 12 := by simpa [rmB] using rm
          have b := go _ _ (fun k => by obtain ⟨r', e1, e2, e3⟩ := wall_x h hE.2.1 hD rm2 k; exact ⟨r', dr, e1, e2, e3⟩) (wall_b hb h hE.2.1 t2 hD rm2 hth hth2)
          rw [if_neg (by decide), if_neg (by decide), if_neg (by decide), if_neg (by decide), if_pos (by decide)]; exact b
        · have b := go _ _ (fun k => by obtain ⟨r', e1, e2, e3⟩ := wind_x (dr := dr) h hE.2.1 k; exact ⟨r', dr, e1, e2, e3⟩) (wind_b hb h hE.2.1 t2 hD hth hth2)
          rw [if_neg (by decide), if_neg (by decide), if_neg (by decide), if_neg (by decide), if_neg (by decide), if_pos (by decide)]; exact b
        · have rm2 : kH K < 4 := by simpa [rmB] using rm
          have b := go _ _ (fun k => by obtain ⟨r', e1, e2, e3⟩ := hear_x h hE.2.1 hD rm2 k; exact ⟨r', dr, e1, e2, e3⟩) (hear_b hb h hE.2.1 t2 hD rm2 hth hth2)
          rw [if_neg (by decide), if_neg (by decide), if_neg (by decide), if_neg (by decide), if_neg (by decide), if_neg (by decide), if_pos (by decide)]; exact b
  · have ne : ¬ nI (tkK n t a) = 1 := by rw [show (1 : Int32) = nI 1 from rfl, nI_eq (by omega) (by omega)]; exact k1
    rw [if_neg ne, bd1_some, if_neg ne, bd1_some, if_neg (by decide), if_neg (by decide), if_neg (by decide), if_neg (by decide), if_neg (by decide), if_neg (by decide), if_neg (by decide)]
    exact none_b 7 rfl
